/-! What a tailoring is; the elements of an item. -/
/-- items, levels, what sorts as several, as which signs -/
abbrev TD : Type := List Int × List Int × List Int × List Int
abbrev kn (D : TD) (c : Int) : Prop := c ∈ D.1 ∨ c ∈ D.2.2.1
def wOf (D : TD) (c kd : Int) : El := (rget (w1 0 D.2.1) (rplace D.1 c), rget (w2 1 D.2.1) (rplace D.1 c), rget (w3 1 D.2.1) (rplace D.1 c), kd)
def sgs (s : Int) : List Int := (List.range (sgIn s).toNat).map (fun (k : Nat) => sgAt s (k : Int))
/-- the codes that give the weights of a code -/
def cdsOf (D : TD) (c : Int) : List Int := if rplace D.2.2.1 c = -1 then [c] else (sgs (rget D.2.2.2 (rplace D.2.2.1 c))).map (fun s => s + 1)
def elsOf (D : TD) (c kd : Int) : List El := (cdsOf D c).map (fun x => wOf D x kd)
def tlC (t : Nat) (σ : Sg) (D : TD) : Prop := σ.1 (t + 1) = D.1 ∧ σ.1 (t + 3) = D.2.1 ∧ σ.1 (t + 5) = w1 0 D.2.1 ∧ σ.1 (t + 7) = w2 1 D.2.1 ∧ σ.1 (t + 9) = w3 1 D.2.1 ∧ σ.1 (t + 11) = D.2.2.1 ∧ σ.1 (t + 13) = D.2.2.2
def opC (t : Nat) (σ : Sg) (o : Nat → Int) : Prop := ∀ j, j < 3 → σ.2 (t + 21) j = o j ∧ (o j = 0 ∨ o j = 1)
/-- codes of one to three signs -/
abbrev okCd (c : Int) : Prop := 0 < c ∧ c < 1010101
def sgOk (D : TD) : Prop := D.2.2.1.length = D.2.2.2.length ∧ ∀ s ∈ D.2.2.2, okCd s
section WEI
variable {Ls N N1 N2 k pc n n' nn b c t u a q : Nat} {L L0 : mLs} {st r as : List mV} {h h' : mH} {σ σ' σ'' : Sg} {post : tP} {x y z x' y' i i' s v m w kd : Int} {xs ys tk : List Int} {els : List El} {e : mE} {D : TD} {o : Nat → Int}
theorem tlC.el (ht : isT t) (hu : isEl u) (hD : tlC t σ D) (hc : chg (elR u) (elC u) σ σ') : tlC t σ' D := by
  have hq : ∀ o, o < 20 → σ'.1 (t + o) = σ.1 (t + o) := fun o ho => hc.1 _ (fun g => by unfold isT at ht; unfold isEl at hu; omega)
  obtain ⟨h1, h2, h3, h4, h5, h6, h7⟩ := hD
  exact ⟨(hq 1 (by decide)).trans h1, (hq 3 (by decide)).trans h2, (hq 5 (by decide)).trans h3, (hq 7 (by decide)).trans h4, (hq 9 (by decide)).trans h5, (hq 11 (by decide)).trans h6, (hq 13 (by decide)).trans h7⟩
theorem opC.el (ht : isT t) (hu : isEl u) (hD : opC t σ o) (hc : chg (elR u) (elC u) σ σ') : opC t σ' o := fun j hj => by
  rw [hc.2 (t + 21) j (fun g => by unfold isT at ht; unfold isEl at hu; omega)]
  exact hD j hj
theorem rplace_or (xs : List Int) (x : Int) : (rplace xs x = -1 ∧ x ∉ xs) ∨ (0 ≤ rplace xs x ∧ rplace xs x < xs.length ∧ x ∈ xs) := by
  unfold rplace
  cases hf : xs.findIdx? (fun y => decide (y = x)) with
  | none =>
    refine Or.inl ⟨rfl, fun hm => ?_⟩
    have := List.findIdx?_eq_none_iff.mp hf x hm
    simp at this
  | some j =>
    obtain ⟨g1, g2, -⟩ := List.findIdx?_eq_some_iff_getElem.mp hf
    refine Or.inr ⟨Int.natCast_nonneg _, by show (j : Int) < _; omega, ?_⟩
    have : xs[j] = x := by simpa using g2
    rw [← this]
    exact List.getElem_mem _
theorem rget_mem (h1 : 0 ≤ i ∧ i < xs.length) : rget xs i ∈ xs := by
  unfold rget
  rw [if_pos h1, List.getD_eq_getElem?_getD, List.getElem?_eq_getElem (show i.toNat < xs.length by omega)]
  exact List.getElem_mem _
theorem sgIn_le3 (w : Int) : 0 ≤ sgIn w ∧ sgIn w ≤ 3 := ⟨(sgIn_in w).1, (sgIn_in w).2.1⟩
theorem cdsOf_len (D : TD) (c : Int) : (cdsOf D c).length ≤ 3 := by
  unfold cdsOf sgs
  split
  · simp
  · have := sgIn_le3 (rget D.2.2.2 (rplace D.2.2.1 c))
    simp
    omega
theorem elsOf_len (D : TD) (c kd : Int) : (elsOf D c kd).length ≤ 3 := by
  unfold elsOf
  rw [List.length_map]
  exact cdsOf_len D c
theorem cdsOf_get (hD : sgOk D) {j : Nat} (hj : j < (cdsOf D x).length) (hr : rplace D.2.2.1 x ≠ -1) : okCd (rget D.2.2.2 (rplace D.2.2.1 x)) ∧ (j : Int) < sgIn (rget D.2.2.2 (rplace D.2.2.1 x)) ∧ (cdsOf D x)[j]? = some (sgAt (rget D.2.2.2 (rplace D.2.2.1 x)) j + 1) := by
  have h1 : okCd (rget D.2.2.2 (rplace D.2.2.1 x)) := by
    rcases rplace_or D.2.2.1 x with g | g
    · exact absurd g.1 hr
    · exact hD.2 _ (rget_mem (by have := hD.1; omega))
  unfold cdsOf sgs at hj ⊢
  rw [if_neg hr] at hj ⊢
  simp only [List.length_map, List.length_range] at hj
  refine ⟨h1, by omega, ?_⟩
  simp [hj]
theorem s_115 (ht : isT t) (hu : isEl u) (hD : tlC t σ D) (hD2 : sgOk D) (hx : in32 x) (hS : elIs u σ els tk kd) (hl : els.length + 3 ≤ 93) (hkd : in32 kd) (K : ∀ σ', elIs u σ' (els ++ elsOf D x kd) tk kd → chg (elR u) (elC u) σ σ' → post (.inl none) σ') :
    Tr Ls N 115 0 [some (mP (some t)), some (mI x), some (mP (some u)), none, none, none, none, none] [] σ post := by
  have hc3 := cdsOf_len D x
  have loop : ∀ (rest done : List Int) (v7 : Option mV) (σ' : Sg), cdsOf D x = done ++ rest → elIs u σ' (els ++ done.map (fun y => wOf D y kd)) tk kd → chg (elR u) (elC u) σ σ' → Tr Ls N 115 38 [some (mP (some t)), some (mI x), some (mP (some u)), some (mI (rplace D.2.2.1 x)), some (mI (rget D.2.2.2 (rplace D.2.2.1 x))), some (mI ((cdsOf D x).length : Int)), some (mI (done.length : Int)), v7] [] σ' post := by
    intro rest
    induction rest with
    | nil =>
      intro done v7 σ' e hS' hc
      rw [List.append_nil] at e
      have e9 := congrArg List.length e
      iterate 2 (refine tr_mv rfl (fun _ => rfl) ?_)
      refine tr_cmp2 rfl (m32_of (by omega)) (m32_of (by omega)) (fun _ => ?_) (fun c1 => absurd (show ((cdsOf D x).length : Int) ≤ (done.length : Int) by omega) c1)
      refine tr_ret rfl (fun _ => rfl) (K σ' ?_ hc)
      unfold elsOf
      rw [e]
      exact hS'
    | cons y rest ih =>
      intro done v7 σ' e hS' hc
      have hlen : (cdsOf D x).length = done.length + 1 + rest.length := by rw [e]; simp; omega
      have hy : (cdsOf D x)[done.length]? = some y := by rw [e]; simp
      refine tr_fact fun ⟨h0, hr⟩ => ?_
      have hD' := hD.el ht hu hc
      have hrp := rplace_or D.2.2.1 x
      have hyin : in32 y := by
        by_cases c0 : rplace D.2.2.1 x = -1
        · unfold cdsOf at hy
          rw [if_pos c0] at hy
          cases hd : done.length with
          | zero => rw [hd] at hy; cases hy; exact hx
          | succ j => rw [hd] at hy; simp at hy
        · obtain ⟨g1, g2, g3⟩ := cdsOf_get (j := done.length) hD2 (by omega) c0
          rw [g3] at hy
          cases hy
          have := sgAt_in (show 0 ≤ rget D.2.2.2 (rplace D.2.2.1 x) by omega) done.length
          omega
      have h68 : Tr Ls N 115 68 [some (mP (some t)), some (mI x), some (mP (some u)), some (mI (rplace D.2.2.1 x)), some (mI (rget D.2.2.2 (rplace D.2.2.1 x))), some (mI ((cdsOf D x).length : Int)), some (mI (done.length : Int)), v7] [mI y, mP (some (t + 1))] σ' post := by
        have hp := rplace_or D.1 y
        have hl1 := rep_len hr (T_r0 ht)
        rw [hD'.1] at hl1
        have i1 := rget_in (rep_in hr (T_r2 ht)) (rplace D.1 y)
        have i2 := rget_in (rep_in hr (T_r3 ht)) (rplace D.1 y)
        have i3 := rget_in (rep_in hr (T_r4 ht)) (rplace D.1 y)
        rw [hD'.2.2.1] at i1
        rw [hD'.2.2.2.1] at i2
        rw [hD'.2.2.2.2.1] at i3
        refine tr_placeOf (T_r0 ht) hyin rfl rfl ?_
        rw [hD'.1]
        iterate 3 (refine tr_mv rfl (fun _ => rfl) ?_)
        refine tr_gr rfl (T_O ht) (by decide) (T_p2 ht) ?_
        iterate 1 (refine tr_mv rfl (fun _ => rfl) ?_)
        refine tr_at2 (T_r2 ht) (m32_of (by omega)) rfl rfl ?_
        rw [hD'.2.2.1]
        iterate 1 (refine tr_mv rfl (fun _ => rfl) ?_)
        refine tr_gr rfl (T_O ht) (by decide) (T_p3 ht) ?_
        iterate 1 (refine tr_mv rfl (fun _ => rfl) ?_)
        refine tr_at2 (T_r3 ht) (m32_of (by omega)) rfl rfl ?_
        rw [hD'.2.2.2.1]
        iterate 1 (refine tr_mv rfl (fun _ => rfl) ?_)
        refine tr_gr rfl (T_O ht) (by decide) (T_p4 ht) ?_
        iterate 1 (refine tr_mv rfl (fun _ => rfl) ?_)
        refine tr_at2 (T_r4 ht) (m32_of (by omega)) rfl rfl ?_
        rw [hD'.2.2.2.2.1]
        refine tr_vc (q := u) rfl (L_O hu) rfl rfl rfl (s_37 hu hS' (by simp; omega) i1 i2 i3 hkd (fun σ2 g1 g2 => ?_))
        iterate 2 (refine tr_mv rfl (fun _ => rfl) ?_)
        show Tr Ls N 115 38 [some (mP (some t)), some (mI x), some (mP (some u)), some (mI (rplace D.2.2.1 x)), some (mI (rget D.2.2.2 (rplace D.2.2.1 x))), some (mI ((cdsOf D x).length : Int)), some (mI ((done.length : Int) + 1)), some (mI (rplace D.1 y))] [] σ2 post
        rw [show (done.length : Int) + 1 = ((done ++ [y]).length : Int) by simp]
        refine ih (done ++ [y]) _ σ2 (by rw [e]; simp) ?_ (hc.tr g2)
        simpa [wOf] using g1
      iterate 2 (refine tr_mv rfl (fun _ => rfl) ?_)
      refine tr_cmp2 rfl (m32_of (by omega)) (m32_of (by omega)) (fun c1 => absurd c1 (by show ¬ _ ≤ _; omega)) (fun _ => ?_)
      iterate 1 (refine tr_mv rfl (fun _ => rfl) ?_)
      refine tr_gr rfl (T_O ht) (by decide) (T_p0 ht) ?_
      iterate 2 (refine tr_mv rfl (fun _ => rfl) ?_)
      have hl12 := rep_len hr (T_r5 ht)
      rw [hD'.2.2.2.2.2.1] at hl12
      refine tr_cmp2 rfl (m32_of (by omega)) (m32_of (x := -1) ⟨by decide, by decide⟩) (fun c0 => ?_) (fun c0 => ?_)
      · obtain ⟨g1, g2, g3⟩ := cdsOf_get (j := done.length) hD2 (by omega) c0
        rw [g3] at hy
        cases hy
        iterate 2 (refine tr_mv rfl (fun _ => rfl) ?_)
        refine tr_stat rfl rfl rfl (s_187 g1 ⟨by omega, g2⟩ ?_)
        refine tr_stat rfl rfl rfl (s_185 ?_)
        exact h68
      · have c0 : rplace D.2.2.1 x = -1 := Decidable.byContradiction c0
        unfold cdsOf at hy
        rw [if_pos c0] at hy
        cases hd : done.length with
        | zero =>
          rw [hd] at hy
          cases hy
          rw [hd] at h68
          iterate 2 (refine tr_mv rfl (fun _ => rfl) ?_)
          exact h68
        | succ j => rw [hd] at hy; simp at hy
  refine tr_fact fun ⟨h0, hr⟩ => ?_
  have hrp := rplace_or D.2.2.1 x
  have hl12 := rep_len hr (T_r5 ht)
  rw [hD.2.2.2.2.2.1] at hl12
  have h38 : ∀ w, w = ((cdsOf D x).length : Int) → Tr Ls N 115 33 [some (mP (some t)), some (mI x), some (mP (some u)), some (mI (rplace D.2.2.1 x)), some (mI (rget D.2.2.2 (rplace D.2.2.1 x))), none, none, none] [mI w] σ post := by
    intro w e
    subst e
    iterate 3 (refine tr_mv rfl (fun _ => rfl) ?_)
    exact loop (cdsOf D x) [] none σ rfl (by simpa using hS) chg.rf
  iterate 1 (refine tr_mv rfl (fun _ => rfl) ?_)
  refine tr_gr rfl (T_O ht) (by decide) (T_p5 ht) ?_
  iterate 1 (refine tr_mv rfl (fun _ => rfl) ?_)
  refine tr_placeOf (T_r5 ht) hx rfl rfl ?_
  rw [hD.2.2.2.2.2.1]
  iterate 2 (refine tr_mv rfl (fun _ => rfl) ?_)
  refine tr_gr rfl (T_O ht) (by decide) (T_p6 ht) ?_
  iterate 1 (refine tr_mv rfl (fun _ => rfl) ?_)
  refine tr_at2 (T_r6 ht) (m32_of (by omega)) rfl rfl ?_
  rw [hD.2.2.2.2.2.2]
  iterate 3 (refine tr_mv rfl (fun _ => rfl) ?_)
  have i6 := rget_in (rep_in hr (T_r6 ht)) (rplace D.2.2.1 x)
  rw [hD.2.2.2.2.2.2] at i6
  refine tr_cmp2 rfl (m32_of (by omega)) (m32_of (x := -1) ⟨by decide, by decide⟩) (fun c0 => ?_) (fun c0 => ?_)
  · iterate 1 (refine tr_mv rfl (fun _ => rfl) ?_)
    refine tr_stat rfl rfl rfl (s_186 i6 ?_)
    refine h38 _ ?_
    unfold cdsOf sgs
    have := sgIn_le3 (rget D.2.2.2 (rplace D.2.2.1 x))
    rw [if_neg c0]
    simp
    omega
  · have c0 : rplace D.2.2.1 x = -1 := Decidable.byContradiction c0
    iterate 2 (refine tr_mv rfl (fun _ => rfl) ?_)
    refine h38 1 ?_
    unfold cdsOf
    rw [if_pos c0]
    rfl
end WEI
