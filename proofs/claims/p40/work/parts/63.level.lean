/-! The rows of the elements on the levels. -/
/-- an element's weight on a level, 0 for none -/
def lvW (lv sh : Int) (e : El) : Int := if lv = 4 then (if sh ≠ 1 ∨ e.2.2.2 = 2 then 0 else if e.2.2.2 = 1 then e.1 else 100) else if sh = 1 ∧ e.2.2.2 ≠ 0 then 0 else if lv = 1 then e.1 else if lv = 2 then e.2.1 else e.2.2.1
def lvRow (lv sh bw : Int) (els : List El) : List Int := ((if lv = 2 ∧ bw = 1 then els.reverse else els).map (lvW lv sh)).filter (fun w => decide (0 < w))
section LEVEL
variable {Ls N N1 N2 k pc n n' nn b c t u a q : Nat} {L L0 : mLs} {st r as : List mV} {h h' : mH} {σ σ' σ'' : Sg} {post : tP} {x y z x' y' i i' s v m w kd bv lv sh : Int} {xs ys tk ss : List Int} {els : List El} {e : mE} {D : TD} {o : Nat → Int} {S : GS} {ee : El}
theorem lvRow_len (lv sh bw : Int) (els : List El) : (lvRow lv sh bw els).length ≤ els.length := by
  unfold lvRow
  refine Nat.le_trans (List.length_filter_le _ _) ?_
  rw [List.length_map]
  split
  · rw [List.length_reverse]; exact Nat.le_refl _
  · exact Nat.le_refl _
theorem s_46 (hu : isEl u) (hS : elIs u σ els tk kd) (hg : ∀ f : El → Int, rget (els.map f) x = f ee) (hx : in32 x) (hlv : 1 ≤ lv ∧ lv ≤ 3) (K : post (.inl (some (mI (lvW lv sh ee)))) σ) : Tr Ls N 46 0 [some (mP (some u)), some (mI lv), some (mI (b2 (sh = 1))), some (mI x)] [] σ post := by
  obtain ⟨h1, h2, h3, h4, h5, h6⟩ := hS
  refine tr_fact fun ⟨h0, hr⟩ => ?_
  have i4 := rget_in (rep_in hr (L_r3 hu)) x
  rw [h4, hg] at i4
  unfold lvW at K
  rw [if_neg (by omega)] at K
  have h17 : ¬ (sh = 1 ∧ ee.2.2.2 ≠ 0) → Tr Ls N 46 17 [some (mP (some u)), some (mI lv), some (mI (b2 (sh = 1))), some (mI x)] [] σ post := by
    intro g
    rw [if_neg g] at K
    iterate 2 (refine tr_mv rfl (fun _ => rfl) ?_)
    refine tr_cmp2 rfl (m32_of (by omega)) (m32_of (by omega)) (fun c1 => ?_) (fun c1 => ?_)
    · iterate 2 (refine tr_mv rfl (fun _ => rfl) ?_)
      refine tr_cmp2 rfl (m32_of (by omega)) (m32_of (by omega)) (fun c2 => ?_) (fun c2 => ?_)
      · iterate 1 (refine tr_mv rfl (fun _ => rfl) ?_)
        refine tr_gr rfl (L_O hu) (by decide) (L_p2 hu) ?_
        iterate 1 (refine tr_mv rfl (fun _ => rfl) ?_)
        refine tr_at2 (L_r2 hu) (m32_of hx) rfl rfl ?_
        rw [h3, hg]
        rw [if_neg (by omega), if_neg (by omega)] at K
        exact tr_ri rfl rfl K
      · iterate 1 (refine tr_mv rfl (fun _ => rfl) ?_)
        refine tr_gr rfl (L_O hu) (by decide) (L_p1 hu) ?_
        iterate 1 (refine tr_mv rfl (fun _ => rfl) ?_)
        refine tr_at2 (L_r1 hu) (m32_of hx) rfl rfl ?_
        rw [h2, hg]
        rw [if_neg (by omega), if_pos (by omega)] at K
        iterate 1 (refine tr_mv rfl (fun _ => rfl) ?_)
        exact tr_ri rfl rfl K
    · iterate 1 (refine tr_mv rfl (fun _ => rfl) ?_)
      refine tr_gr rfl (L_O hu) (by decide) (L_p0 hu) ?_
      iterate 1 (refine tr_mv rfl (fun _ => rfl) ?_)
      refine tr_at2 (L_r0 hu) (m32_of hx) rfl rfl ?_
      rw [h1, hg]
      rw [if_pos (by omega)] at K
      iterate 1 (refine tr_mv rfl (fun _ => rfl) ?_)
      exact tr_ri rfl rfl K
  iterate 1 (refine tr_mv rfl (fun _ => rfl) ?_)
  first | refine tr_ib rfl (fun c1 => ?_) (fun c1 => ?_) | refine tr_ibn rfl (fun c1 => ?_) (fun c1 => ?_)
  · exact h17 (fun g => c1 g.1)
  · iterate 1 (refine tr_mv rfl (fun _ => rfl) ?_)
    refine tr_gr rfl (L_O hu) (by decide) (L_p3 hu) ?_
    iterate 1 (refine tr_mv rfl (fun _ => rfl) ?_)
    refine tr_at2 (L_r3 hu) (m32_of hx) rfl rfl ?_
    rw [h4, hg]
    refine tr_if2 rfl (m32_of (by omega)) (fun c2 => ?_) (fun c2 => ?_)
    · exact h17 (fun g => g.2 c2)
    · iterate 1 (refine tr_mv rfl (fun _ => rfl) ?_)
      rw [if_pos ⟨c1, c2⟩] at K
      exact tr_ri rfl rfl K
theorem s_47 (hu : isEl u) (hS : elIs u σ els tk kd) (hg : ∀ f : El → Int, rget (els.map f) x = f ee) (hx : in32 x) (K : post (.inl (some (mI (lvW 4 sh ee)))) σ) : Tr Ls N 47 0 [some (mP (some u)), some (mI (b2 (sh = 1))), some (mI x)] [] σ post := by
  obtain ⟨h1, h2, h3, h4, h5, h6⟩ := hS
  refine tr_fact fun ⟨h0, hr⟩ => ?_
  have i4 := rget_in (rep_in hr (L_r3 hu)) x
  rw [h4, hg] at i4
  unfold lvW at K
  rw [if_pos rfl] at K
  iterate 1 (refine tr_mv rfl (fun _ => rfl) ?_)
  first | refine tr_ib rfl (fun c1 => ?_) (fun c1 => ?_) | refine tr_ibn rfl (fun c1 => ?_) (fun c1 => ?_)
  · rw [if_pos (Or.inl c1)] at K
    iterate 1 (refine tr_mv rfl (fun _ => rfl) ?_)
    exact tr_ri rfl rfl K
  · iterate 1 (refine tr_mv rfl (fun _ => rfl) ?_)
    refine tr_gr rfl (L_O hu) (by decide) (L_p3 hu) ?_
    iterate 1 (refine tr_mv rfl (fun _ => rfl) ?_)
    refine tr_at2 (L_r3 hu) (m32_of hx) rfl rfl ?_
    rw [h4, hg]
    iterate 1 (refine tr_mv rfl (fun _ => rfl) ?_)
    refine tr_cmp2 rfl (m32_of (by omega)) (m32_of (by omega)) (fun c2 => ?_) (fun c2 => ?_)
    · rw [if_neg (fun g => g.elim (fun g => g c1) c2)] at K
      iterate 1 (refine tr_mv rfl (fun _ => rfl) ?_)
      refine tr_gr rfl (L_O hu) (by decide) (L_p3 hu) ?_
      iterate 1 (refine tr_mv rfl (fun _ => rfl) ?_)
      refine tr_at2 (L_r3 hu) (m32_of hx) rfl rfl ?_
      rw [h4, hg]
      iterate 1 (refine tr_mv rfl (fun _ => rfl) ?_)
      refine tr_cmp2 rfl (m32_of (by omega)) (m32_of (by omega)) (fun c3 => ?_) (fun c3 => ?_)
      · rw [if_neg c3] at K
        iterate 1 (refine tr_mv rfl (fun _ => rfl) ?_)
        exact tr_ri rfl rfl K
      · rw [if_pos (Decidable.byContradiction c3)] at K
        iterate 1 (refine tr_mv rfl (fun _ => rfl) ?_)
        refine tr_gr rfl (L_O hu) (by decide) (L_p0 hu) ?_
        iterate 1 (refine tr_mv rfl (fun _ => rfl) ?_)
        refine tr_at2 (L_r0 hu) (m32_of hx) rfl rfl ?_
        rw [h1, hg]
        iterate 1 (refine tr_mv rfl (fun _ => rfl) ?_)
        exact tr_ri rfl rfl K
    · rw [if_pos (Or.inr (Decidable.byContradiction c2))] at K
      iterate 1 (refine tr_mv rfl (fun _ => rfl) ?_)
      exact tr_ri rfl rfl K
theorem elIs_setR (hu : isEl u) (hS : elIs u σ els tk kd) (hbu : ¬ elR u b) : elIs u (setR σ b xs) els tk kd := by
  obtain ⟨h1, h2, h3, h4, h5, h6⟩ := hS
  have hq : ∀ o, 0 < o → o < 10 → (setR σ b xs).1 (u + o) = σ.1 (u + o) := fun o o1 o2 => setR_ne _ _ (fun e => hbu ⟨by omega, by omega⟩)
  exact ⟨(hq 1 (by decide) (by decide)).trans h1, (hq 3 (by decide) (by decide)).trans h2, (hq 5 (by decide) (by decide)).trans h3, (hq 7 (by decide) (by decide)).trans h4, (hq 9 (by decide) (by decide)).trans h5, h6⟩
theorem lv_rev {f : El → Int} {done rest : List El} (e : els.reverse = done ++ ee :: rest) (hx : x = (els.length : Int) - 1 - (done.length : Int)) : rget (els.map f) x = f ee := by
  have e2 : els = rest.reverse ++ ee :: done.reverse := by
    have := congrArg List.reverse e
    simpa using this
  have hl : els.length = rest.length + 1 + done.length := by rw [e2]; simp; omega
  rw [e2, List.map_append, List.map_cons]
  exact rget_mid (by simp; omega)
theorem lv_fwd {f : El → Int} {done rest : List El} (e : els = done ++ ee :: rest) (hx : x = (done.length : Int)) : rget (els.map f) x = f ee := by
  rw [e, List.map_append, List.map_cons]
  exact rget_mid (by simp; omega)
theorem s_45 (ht : isT t) (hu : isEl u) (hO : opC t σ o) (hS : elIs u σ els tk kd) (hb : isRow b n) (hbu : ¬ elR u b) (hln : els.length ≤ n) (hn : n < 1000) (hlv : 1 ≤ lv ∧ lv ≤ 4) (K : post (.inl none) (setR σ b (lvRow lv (o 0) (o 1) els))) :
    Tr Ls N 45 0 [some (mP (some u)), some (mP (some t)), some (mI lv), some (mP (some b)), none, none, none, none, none, none] [] σ post := by
  unfold lvRow at K
  have loop : ∀ (rest done : List El) (σ' : Sg) (v8 v9 : Option mV) (acc : List Int), (if lv = 2 ∧ o 1 = 1 then els.reverse else els) = done ++ rest → elIs u σ' els tk kd → σ'.1 b = acc → acc.length ≤ done.length → mok 8 [some (mP (some u)), some (mP (some t)), some (mI lv), some (mP (some b)), some (mI (b2 (o 0 = 1))), some (mI (b2 (lv = 2 ∧ o 1 = 1))), some (mI (els.length : Int)), some (mI (done.length : Int)), v8, v9] = true → mok 9 [some (mP (some u)), some (mP (some t)), some (mI lv), some (mP (some b)), some (mI (b2 (o 0 = 1))), some (mI (b2 (lv = 2 ∧ o 1 = 1))), some (mI (els.length : Int)), some (mI (done.length : Int)), v8, v9] = true → post (.inl none) (setR σ' b (acc ++ (rest.map (lvW lv (o 0))).filter (fun w => decide (0 < w)))) →
      Tr Ls N 45 43 [some (mP (some u)), some (mP (some t)), some (mI lv), some (mP (some b)), some (mI (b2 (o 0 = 1))), some (mI (b2 (lv = 2 ∧ o 1 = 1))), some (mI (els.length : Int)), some (mI (done.length : Int)), v8, v9] [] σ' post := by
    have hEl : (if lv = 2 ∧ o 1 = 1 then els.reverse else els).length = els.length := by split <;> simp
    intro rest
    induction rest with
    | nil =>
      intro done σ' v8 v9 acc e hS' ha hal m8 m9 K'
      have hlen := congrArg List.length e
      rw [hEl, List.append_nil] at hlen
      subst ha
      rw [List.map_nil, List.filter_nil, List.append_nil, setR_self] at K'
      iterate 2 (refine tr_mv rfl (fun _ => rfl) ?_)
      refine tr_cmp2 rfl (m32_of (by omega)) (m32_of (by omega)) (fun _ => ?_) (fun c1 => absurd (show (els.length : Int) ≤ (done.length : Int) by omega) c1)
      exact tr_ret rfl (fun _ => rfl) K'
    | cons ee rest ih =>
      intro done σ' v8 v9 acc e hS' ha hal m8 m9 K'
      have hlen := congrArg List.length e
      have hl2 : (done ++ ee :: rest).length = done.length + 1 + rest.length := by simp; omega
      rw [hEl, hl2] at hlen
      have h67 : ∀ (x : Int) , in32 x → (∀ f : El → Int, rget (els.map f) x = f ee) → Tr Ls N 45 67 [some (mP (some u)), some (mP (some t)), some (mI lv), some (mP (some b)), some (mI (b2 (o 0 = 1))), some (mI (b2 (lv = 2 ∧ o 1 = 1))), some (mI (els.length : Int)), some (mI (done.length : Int)), v8, v9] [mI x] σ' post := by
        intro x hx hg
        refine tr_fact fun ⟨h0, hr⟩ => ?_
        have i1 := rget_in (rep_in hr (L_r0 hu)) x
        have i2 := rget_in (rep_in hr (L_r1 hu)) x
        have i3 := rget_in (rep_in hr (L_r2 hu)) x
        rw [hS'.1, hg] at i1
        rw [hS'.2.1, hg] at i2
        rw [hS'.2.2.1, hg] at i3
        have iw : in32 (lvW lv (o 0) ee) := by
          unfold lvW
          split
          · split
            · omega
            · split
              · exact i1
              · omega
          · split
            · omega
            · split
              · exact i1
              · split
                · exact i2
                · exact i3
        have h94 : ∀ v8 : Option mV, mok 9 [some (mP (some u)), some (mP (some t)), some (mI lv), some (mP (some b)), some (mI (b2 (o 0 = 1))), some (mI (b2 (lv = 2 ∧ o 1 = 1))), some (mI (els.length : Int)), some (mI (done.length : Int)), some (mI x), v9] = true → Tr Ls N 45 94 [some (mP (some u)), some (mP (some t)), some (mI lv), some (mP (some b)), some (mI (b2 (o 0 = 1))), some (mI (b2 (lv = 2 ∧ o 1 = 1))), some (mI (els.length : Int)), some (mI (done.length : Int)), some (mI x), v9] [mI (lvW lv (o 0) ee)] σ' post := by
          intro v8 mm
          rw [List.map_cons] at K'
          generalize lvW lv (o 0) ee = wv at *
          have h107 : ∀ (σ2 : Sg) (acc2 : List Int), elIs u σ2 els tk kd → σ2.1 b = acc2 → acc2.length ≤ done.length + 1 → post (.inl none) (setR σ2 b (acc2 ++ (rest.map (lvW lv (o 0))).filter (fun w => decide (0 < w)))) → Tr Ls N 45 107 [some (mP (some u)), some (mP (some t)), some (mI lv), some (mP (some b)), some (mI (b2 (o 0 = 1))), some (mI (b2 (lv = 2 ∧ o 1 = 1))), some (mI (els.length : Int)), some (mI (done.length : Int)), some (mI x), some (mI wv)] [] σ2 post := by
            intro σ2 acc2 g1 g2 g3 K2
            iterate 2 (refine tr_mv rfl (fun _ => rfl) ?_)
            show Tr Ls N 45 43 [some (mP (some u)), some (mP (some t)), some (mI lv), some (mP (some b)), some (mI (b2 (o 0 = 1))), some (mI (b2 (lv = 2 ∧ o 1 = 1))), some (mI (els.length : Int)), some (mI ((done.length : Int) + 1)), some (mI x), some (mI wv)] [] σ2 post
            rw [show (done.length : Int) + 1 = ((done ++ [ee]).length : Int) by simp]
            exact ih (done ++ [ee]) σ2 _ _ acc2 (by rw [e]; simp) g1 g2 (by simp; omega) rfl rfl K2
          iterate 2 (refine tr_mv rfl (fun _ => rfl) ?_)
          refine tr_if2 rfl (m32_of (by omega)) (fun c1 => ?_) (fun c1 => ?_)
          · refine h107 σ' acc hS' ha (by omega) ?_
            rw [List.filter_cons_of_neg (by simp; omega)] at K'
            exact K'
          · iterate 2 (refine tr_mv rfl (fun _ => rfl) ?_)
            refine tr_put hb iw rfl rfl ?_
            rw [ha, rput_lt (by omega)]
            refine h107 _ (acc ++ [wv]) (elIs_setR hu hS' hbu) (setR_same _ _ _) (by simp; omega) ?_
            rw [List.filter_cons_of_pos (by simp; omega)] at K'
            rw [setR_setR]
            simpa using K'
        iterate 3 (refine tr_mv rfl (fun _ => rfl) ?_)
        refine tr_cmp2 rfl (m32_of (by omega)) (m32_of (by omega)) (fun c1 => ?_) (fun c1 => ?_)
        · iterate 4 (refine tr_mv rfl (fun _ => rfl) ?_)
          refine tr_vc (q := u) rfl (L_O hu) rfl rfl rfl (s_46 (ee := ee) hu hS' hg hx (by omega) ?_)
          exact h94 none rfl
        · have c1 : lv = 4 := Decidable.byContradiction c1
          iterate 3 (refine tr_mv rfl (fun _ => rfl) ?_)
          refine tr_vc (q := u) rfl (L_O hu) rfl rfl rfl (s_47 (ee := ee) hu hS' hg hx ?_)
          iterate 1 (refine tr_mv rfl (fun _ => rfl) ?_)
          rw [c1]
          rw [c1] at h94
          exact h94 none rfl
      iterate 2 (refine tr_mv rfl (fun _ => rfl) ?_)
      refine tr_cmp2 rfl (m32_of (by omega)) (m32_of (by omega)) (fun c1 => absurd c1 (by show ¬ _ ≤ _; omega)) (fun _ => ?_)
      iterate 1 (refine tr_mv rfl (fun _ => rfl) ?_)
      first | refine tr_ib rfl (fun c1 => ?_) (fun c1 => ?_) | refine tr_ibn rfl (fun c1 => ?_) (fun c1 => ?_)
      · rw [if_neg c1] at e
        iterate 1 (refine tr_mv rfl (fun _ => rfl) ?_)
        exact h67 _ (by omega) (fun f => lv_fwd e rfl)
      · rw [if_pos c1] at e
        iterate 6 (refine tr_mv rfl (fun _ => rfl) ?_)
        exact h67 _ (by omega) (fun f => lv_rev e (by omega))
  refine tr_fact fun ⟨h0, hr⟩ => ?_
  have l1 := rep_len hr (L_r0 hu)
  have hS1 := elIs_setR (xs := []) hu hS hbu
  have hO1 : opC t (setR σ b []) o := hO
  iterate 1 (refine tr_mv rfl (fun _ => rfl) ?_)
  refine tr_clear hb rfl rfl ?_
  iterate 2 (refine tr_mv rfl (fun _ => rfl) ?_)
  refine tr_vc (q := t) rfl (T_O ht) rfl rfl rfl (s_108D ht hO1 (j := 0) (by decide) rfl ?_)
  have h29 : ∀ (p : Int), p = b2 (lv = 2 ∧ o 1 = 1) → Tr Ls N 45 29 [some (mP (some u)), some (mP (some t)), some (mI lv), some (mP (some b)), some (mI (b2 (o 0 = 1))), none, none, none, none, none] [mI p] (setR σ b []) post := by
    intro p e
    subst e
    iterate 2 (refine tr_mv rfl (fun _ => rfl) ?_)
    refine tr_gr rfl (L_O hu) (by decide) (L_p0 hu) ?_
    refine tr_size (L_r0 hu) rfl rfl ?_
    rw [hS1.1, List.length_map]
    iterate 3 (refine tr_mv rfl (fun _ => rfl) ?_)
    refine loop _ [] _ none none [] rfl hS1 (setR_same _ _ _) (Nat.le_refl _) rfl rfl ?_
    rw [setR_setR]
    exact K
  iterate 3 (refine tr_mv rfl (fun _ => rfl) ?_)
  refine tr_cmp2 rfl (m32_of (by omega)) (m32_of (by omega)) (fun c1 => ?_) (fun c1 => ?_)
  · iterate 1 (refine tr_mv rfl (fun _ => rfl) ?_)
    exact h29 0 (b2_neg (fun g => c1 g.1)).symm
  · have c1 : lv = 2 := Decidable.byContradiction c1
    iterate 2 (refine tr_mv rfl (fun _ => rfl) ?_)
    refine tr_vc (q := t) rfl (T_O ht) rfl rfl rfl (s_108D ht hO1 (j := 1) (by decide) rfl ?_)
    first | refine tr_ib rfl (fun c2 => ?_) (fun c2 => ?_) | refine tr_ibn rfl (fun c2 => ?_) (fun c2 => ?_)
    · iterate 1 (refine tr_mv rfl (fun _ => rfl) ?_)
      exact h29 0 (b2_neg (fun g => c2 g.2)).symm
    · iterate 2 (refine tr_mv rfl (fun _ => rfl) ?_)
      exact h29 1 (b2_pos ⟨c1, c2⟩).symm
end LEVEL
