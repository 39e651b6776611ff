/-! The class Elements: numbers; the elements of a row of signs. -/
abbrev GS : Type := List El × List Int × Int
def numEls (D : TD) (ds : List Int) : List El := [(fwN D, 1, 1, 0), (((strp ds).length : Int), 1, 1, 0)] ++ (strp ds).map (fun d => (d - 29, 1, 1, 0))
def itmC (D : TD) (ss : List Int) (p : Nat) (v : Int) (tk : List Int) : Int × List Int := tmk D v (ss.drop (p + lnOf D (ss.drop p))) (cdL ((ss.drop p).take (lnOf D (ss.drop p)))) 0 (p + lnOf D (ss.drop p)) (tkF (lnOf D (ss.drop p)) p v tk)
/-- the elements from the place p on: how many signs are gone over, and what is found -/
def gStep (D : TD) (bv : Int) (ss : List Int) (p : Nat) (v : Int) (S : GS) : Nat × GS :=
  if isMrk (ss.getD p 0) then (1, S.1 ++ [(0, ss.getD p 0 - 22, 1, mkK S.2.2)], S.2.1.set p v, mkK S.2.2)
  else if isDig (ss.getD p 0) ∧ bv = 1 then ((digs (ss.drop p)).length, S.1 ++ numEls D (digs (ss.drop p)), tkF (digs (ss.drop p)).length p v S.2.1, 0)
  else (lnOf D (ss.drop p), S.1 ++ elsOf D (itmC D ss p v S.2.1).1 (b2 (isBlk (ss.getD p 0))), (itmC D ss p v S.2.1).2, b2 (isBlk (ss.getD p 0)))
def gth (D : TD) (bv : Int) (ss : List Int) : Nat → Nat → GS → GS
  | 0, _, S => S
  | f + 1, p, S => if ss.length ≤ p then S else if S.2.1.getD p 0 ≠ -1 then gth D bv ss f (p + 1) S else gth D bv ss f (p + (gStep D bv ss p p S).1) (gStep D bv ss p p S).2
def gthR (D : TD) (bv : Int) (ss : List Int) : GS := gth D bv ss (ss.length + 1) 0 ([], List.replicate ss.length (-1), 0)
section GATHER
variable {Ls N N1 N2 k pc n n' nn b c t u a q : Nat} {L L0 : mLs} {st r as : List mV} {h h' : mH} {σ σ' σ'' : Sg} {post : tP} {x y z x' y' i i' s v m w kd bv : Int} {xs ys tk ss : List Int} {els : List El} {e : mE} {D : TD} {o : Nat → Int} {S : GS}
theorem digs_cons (h : isDig x) (l : List Int) : digs (x :: l) = x :: digs l := by
  show (if isDig x then x :: digs l else []) = _
  rw [if_pos h]
theorem numEls_len (D : TD) (ds : List Int) : (numEls D ds).length ≤ ds.length + 2 := by
  have := strp_len ds
  unfold numEls
  simp
  omega
theorem drop_get {p : Nat} (hp : p < ss.length) : ss.drop p = ss.getD p 0 :: ss.drop (p + 1) := by
  rw [List.drop_eq_getElem_cons hp, List.getD_eq_getElem?_getD, List.getElem?_eq_getElem hp]
  rfl
theorem itmC_len (D : TD) (ss : List Int) (p : Nat) (v : Int) (tk : List Int) : (itmC D ss p v tk).2.length = tk.length := by
  unfold itmC
  rw [tmk_len, tkF_len]
/-- what a step does -/
theorem gStep_adv {p : Nat} (hp : p < ss.length) : 1 ≤ (gStep D bv ss p v S).1 ∧ p + (gStep D bv ss p v S).1 ≤ ss.length ∧ (gStep D bv ss p v S).2.1.length ≤ S.1.length + 3 * (gStep D bv ss p v S).1 ∧ (gStep D bv ss p v S).2.2.1.length = S.2.1.length := by
  have hne : ss.drop p ≠ [] := fun e9 => by
    have := congrArg List.length e9
    simp at this
    omega
  have hld : (ss.drop p).length = ss.length - p := List.length_drop
  unfold gStep
  split
  · simp
    omega
  · split
    · rename_i g1 g2
      have h1 := digs_len (ss.drop p)
      have h2 := numEls_len D (digs (ss.drop p))
      have h3 : 1 ≤ (digs (ss.drop p)).length := by
        rw [drop_get hp, digs_cons g2.1]
        simp
      dsimp only
      rw [List.length_append, tkF_len]
      omega
    · have h1 := lnOf_in D hne
      have h2 := elsOf_len D (itmC D ss p v S.2.1).1 (b2 (isBlk (ss.getD p 0)))
      dsimp only
      rw [List.length_append, itmC_len]
      omega
theorem gStep_set {p : Nat} (hp : p < ss.length) (hl : S.2.1.length = ss.length) {j : Nat} (h1 : p ≤ j) (h2 : j < p + (gStep D bv ss p v S).1) : (gStep D bv ss p v S).2.2.1[j]? = some v := by
  have hne : ss.drop p ≠ [] := fun e9 => by
    have := congrArg List.length e9
    simp at this
    omega
  have hld : (ss.drop p).length = ss.length - p := List.length_drop
  unfold gStep at h2 ⊢
  split at h2
  · rename_i g
    rw [if_pos g]
    simp only at h2
    have : j = p := by omega
    subst this
    simp [List.getElem?_set, hl, hp]
  · rename_i g
    rw [if_neg g]
    split at h2
    · rename_i g2
      have h3 := digs_len (ss.drop p)
      rw [if_pos g2]
      simp only at h2
      rw [tkF_get, if_pos (by omega)]
    · rename_i g2
      have h3 := lnOf_in D hne
      rw [if_neg g2]
      simp only at h2
      unfold itmC
      rw [tmk_low _ _ _ _ _ _ _ _ (by omega), tkF_get, if_pos (by omega)]
theorem s_40 (ht : isT t) (hu : isEl u) (hD2 : okTD D) (hD : tlC t σ D) (hS : elIs u σ els tk kd) (hb : isRow b n) (hbu : ¬ elR u b) (hs : σ.1 b = ss) (h40 : okA40 ss) (hls : ss.length ≤ 31) {f : Nat} (hf : f < ss.length) (hx : ss[f]? = some x) (hdg : isDig x) (hl : els.length + (digs (ss.drop f)).length + 2 ≤ 93)
    (K : ∀ σ', elIs u σ' (els ++ numEls D (digs (ss.drop f))) (tkF (digs (ss.drop f)).length f f tk) 0 → chg (elR u) (elC u) σ σ' → post (.inl none) σ') :
    Tr Ls N 40 0 [some (mP (some u)), some (mP (some t)), some (mP (some b)), some (mI (f : Int)), none, none, none] [] σ post := by
  -- the digits at hand, what is ahead of them and behind them
  have hld : (ss.drop f).length = ss.length - f := List.length_drop
  have hdl := digs_len (ss.drop f)
  have hfs : (ss.take f).length = f := by rw [List.length_take]; omega
  have hsp : ss = ss.take f ++ (digs (ss.drop f) ++ (ss.drop f).drop (digs (ss.drop f)).length) := by
    rw [← digs_split, List.take_append_drop]
  have hne : digs (ss.drop f) ≠ [] := by
    have e1 : ss.drop f = x :: ss.drop (f + 1) := by rw [drop_get hf, List.getD_eq_getElem?_getD, hx]; rfl
    rw [e1, digs_cons hdg]
    simp
  have hsl := strp_len (digs (ss.drop f))
  generalize hds : digs (ss.drop f) = ds at *
  generalize (ss.drop f).drop ds.length = post0 at *
  have hnl : 1 ≤ ds.length := by
    cases ds with
    | nil => exact absurd rfl hne
    | cons y ys => simp
  have fw := fwN_in hD2
  -- the third loop: what is put
  have L3 : ∀ (rest done : List Int) (pre : List Int) (v6 : Int) (st' : Int) (σ' : Sg), strp ds = done ++ rest → ss = pre ++ (rest ++ post0) → v6 = (pre.length : Int) → elIs u σ' (els ++ ([(fwN D, 1, 1, 0), (((strp ds).length : Int), 1, 1, 0)] ++ done.map (fun d => (d - 29, 1, 1, 0)))) (tkF ds.length f f tk) 0 → chg (elR u) (elC u) σ σ' → pre.length + rest.length = f + ds.length → Tr Ls N 40 102 [some (mP (some u)), some (mP (some t)), some (mP (some b)), some (mI (f : Int)), some (mI ((f + ds.length : Nat) : Int)), some (mI st'), some (mI v6)] [] σ' post := by
    intro rest
    induction rest with
    | nil =>
      intro done pre v6 st' σ' e1 e2 e3 hS' hc e4
      subst e3
      iterate 2 (refine tr_mv rfl (fun _ => rfl) ?_)
      refine tr_cmp2 rfl (m32_of (by omega)) (m32_of (by omega)) (fun _ => ?_) (fun c1 => absurd (show ((f + ds.length : Nat) : Int) ≤ (pre.length : Int) by simp at e4; omega) c1)
      refine tr_ret rfl (fun _ => rfl) (K σ' ?_ hc)
      rw [List.append_nil] at e1
      unfold numEls
      rw [e1] at hS' ⊢
      exact hS'
    | cons y rest ih =>
      intro done pre v6 st' σ' e1 e2 e3 hS' hc e4
      subst e3
      have hl2 : (y :: rest).length = rest.length + 1 := rfl
      have hy : rget ss (pre.length : Int) = y := rget_app (suf := rest ++ post0) e2
      have hy40 := h40 y (by rw [e2]; simp)
      have hdn : (strp ds).length = done.length + 1 + rest.length := by rw [e1]; simp; omega
      iterate 2 (refine tr_mv rfl (fun _ => rfl) ?_)
      refine tr_cmp2 rfl (m32_of (by omega)) (m32_of (by omega)) (fun c1 => absurd c1 (by show ¬ _ ≤ _; omega)) (fun _ => ?_)
      iterate 3 (refine tr_mv rfl (fun _ => rfl) ?_)
      refine tr_at2 hb (m32_of (by omega)) rfl rfl ?_
      rw [hc.1 b hbu, hs, hy]
      iterate 6 (refine tr_mv rfl (fun _ => rfl) ?_)
      rw [show y - 30 + 1 = y - 29 by omega]
      refine tr_vc (q := u) rfl (L_O hu) rfl rfl rfl (s_37 hu hS' (by simp; omega) (by omega) (by omega) (by omega) (by omega) (fun σ2 g1 g2 => ?_))
      iterate 2 (refine tr_mv rfl (fun _ => rfl) ?_)
      exact ih (done ++ [y]) (pre ++ [y]) _ st' σ2 (by rw [e1]; simp) (by rw [e2]; simp) (by simp) (by simpa using g1) (hc.tr g2) (by simp; omega)
  -- the second loop: the zeros
  have L2 : ∀ (l pre : List Int) (v5 : Int) (σ' : Sg), strp l = strp ds → l ≠ [] → ss = pre ++ (l ++ post0) → v5 = (pre.length : Int) → pre.length + l.length = f + ds.length → elIs u σ' els (tkF ds.length f f tk) 0 → chg (elR u) (elC u) σ σ' → Tr Ls N 40 46 [some (mP (some u)), some (mP (some t)), some (mP (some b)), some (mI (f : Int)), some (mI ((f + ds.length : Nat) : Int)), some (mI v5), none] [] σ' post := by
    intro l
    induction l with
    | nil => intro pre v5 σ' e0 h0; exact absurd rfl h0
    | cons y l ih =>
      intro pre v5 σ' e0 h0 e2 e3 e4 hS' hc
      subst e3
      have hD' := hD.el ht hu hc
      have hl2 : (y :: l).length = l.length + 1 := rfl
      have h72 : strp (y :: l) = y :: l → Tr Ls N 40 72 [some (mP (some u)), some (mP (some t)), some (mP (some b)), some (mI (f : Int)), some (mI ((f + ds.length : Nat) : Int)), some (mI (pre.length : Int)), none] [] σ' post := by
        intro e5
        have e6 : strp ds = y :: l := by rw [← e0]; exact e5
        iterate 3 (refine tr_mv rfl (fun _ => rfl) ?_)
        refine tr_stat rfl rfl rfl (s_185 ?_)
        refine tr_vc (q := t) rfl (T_O ht) rfl rfl rfl (s_114 ht (by omega) (fun z hz => ?_) ?_)
        · rw [hD'.2.2.1] at hz
          have := w1_pos hD2.2.2.2.2.2.2.2.1 z hz
          omega
        rw [hD'.2.2.1, hD'.1, show (30 : Int) + 1 = 31 from rfl, if_neg (show ¬ rget (w1 0 D.2.1) (rplace D.1 31) < 0 from by have := fw.1; unfold fwN at this; omega), show rget (w1 0 D.2.1) (rplace D.1 31) = fwN D from rfl]
        iterate 2 (refine tr_mv rfl (fun _ => rfl) ?_)
        refine tr_vc (q := u) rfl (L_O hu) rfl rfl rfl (s_37 hu hS' (by omega) (by omega) (by omega) (by omega) (by omega) (fun σ2 g1 g2 => ?_))
        iterate 6 (refine tr_mv rfl (fun _ => rfl) ?_)
        rw [show ((f + ds.length : Nat) : Int) - (pre.length : Int) = ((strp ds).length : Int) by rw [e6]; omega]
        refine tr_vc (q := u) rfl (L_O hu) rfl rfl rfl (s_37 hu g1 (by simp; omega) (by omega) (by omega) (by omega) (by omega) (fun σ3 g3 g4 => ?_))
        iterate 2 (refine tr_mv rfl (fun _ => rfl) ?_)
        exact L3 (y :: l) [] pre _ _ σ3 (by rw [e6]; rfl) e2 rfl (by simpa using g3) ((hc.tr g2).tr g4) e4
      iterate 4 (refine tr_mv rfl (fun _ => rfl) ?_)
      cases l with
      | nil =>
        have hl3 : ([y] : List Int).length = 1 := rfl
        refine tr_cmp2 rfl (m32_of (by omega)) (m32_of (by omega)) (fun _ => ?_) (fun c1 => absurd (show ((f + ds.length : Nat) : Int) - 1 ≤ (pre.length : Int) by omega) c1)
        exact h72 rfl
      | cons z l =>
        have hl4 : (z :: l).length = l.length + 1 := rfl
        have hy : rget ss (pre.length : Int) = y := rget_app (suf := (z :: l) ++ post0) e2
        have hy40 := h40 y (by rw [e2]; simp)
        refine tr_cmp2 rfl (m32_of (by omega)) (m32_of (by omega)) (fun c1 => absurd c1 (by show ¬ _ ≤ _; omega)) (fun _ => ?_)
        iterate 2 (refine tr_mv rfl (fun _ => rfl) ?_)
        refine tr_at2 hb (m32_of (by omega)) rfl rfl ?_
        rw [hc.1 b hbu, hs, hy]
        iterate 1 (refine tr_mv rfl (fun _ => rfl) ?_)
        refine tr_cmp2 rfl (m32_of (by omega)) (m32_of (by omega)) (fun c2 => ?_) (fun c2 => ?_)
        · exact h72 (by show (if y = 30 then _ else _) = _; rw [if_neg c2])
        · have c2 : y = 30 := Decidable.byContradiction c2
          iterate 2 (refine tr_mv rfl (fun _ => rfl) ?_)
          refine ih (pre ++ [y]) _ σ' ?_ (by simp) (by rw [e2]; simp) (by simp) (by simp at e4 ⊢; omega) hS' hc
          rw [← e0]
          show _ = (if y = 30 then _ else _)
          rw [if_pos c2]
  -- the first loop: how many digits
  have L1 : ∀ (rest done : List Int) (σ' : Sg), ss = ss.take f ++ (done ++ rest) → done.length + (digs rest).length = ds.length → elIs u σ' els tk 0 → chg (elR u) (elC u) σ σ' → Tr Ls N 40 8 [some (mP (some u)), some (mP (some t)), some (mP (some b)), some (mI (f : Int)), some (mI ((f + done.length : Nat) : Int)), none, none] [] σ' post := by
    intro rest
    induction rest with
    | nil =>
      intro done σ' e1 e3 hS' hc
      have e4 : done.length = ds.length := by simpa [digs] using e3
      have e5 : ss.length = f + done.length := by
        have := congrArg List.length e1
        rw [List.length_append, hfs] at this
        simpa using this
      rw [e4]
      have h35 : Tr Ls N 40 35 [some (mP (some u)), some (mP (some t)), some (mP (some b)), some (mI (f : Int)), some (mI ((f + ds.length : Nat) : Int)), none, none] [] σ' post := by
        iterate 4 (refine tr_mv rfl (fun _ => rfl) ?_)
        refine tr_vc (q := u) rfl (L_O hu) rfl rfl rfl (s_38 (p := f) (d := ds.length) hu (by omega) hS' (by omega) rfl rfl (fun σ2 g1 g2 => ?_))
        iterate 2 (refine tr_mv rfl (fun _ => rfl) ?_)
        exact L2 ds (ss.take f) _ σ2 rfl hne hsp (by rw [hfs]) (by rw [hfs]) g1 (hc.tr g2)
      iterate 2 (refine tr_mv rfl (fun _ => rfl) ?_)
      refine tr_size hb rfl rfl ?_
      rw [hc.1 b hbu, hs]
      refine tr_cmp2 rfl (m32_of (by omega)) (m32_of (by omega)) (fun _ => ?_) (fun c1 => absurd (show (ss.length : Int) ≤ ((f + ds.length : Nat) : Int) by omega) c1)
      exact h35
    | cons y rest ih =>
      intro done σ' e1 e3 hS' hc
      have e5 : ss.length = f + done.length + 1 + rest.length := by
        have := congrArg List.length e1
        rw [List.length_append, hfs] at this
        simp at this
        omega
      have hy : rget ss (((ss.take f) ++ done).length : Int) = y := rget_app (suf := rest) (by rw [List.append_assoc]; exact e1)
      rw [List.length_append, hfs] at hy
      have hy40 := h40 y (by rw [e1]; simp)
      iterate 2 (refine tr_mv rfl (fun _ => rfl) ?_)
      refine tr_size hb rfl rfl ?_
      rw [hc.1 b hbu, hs]
      refine tr_cmp2 rfl (m32_of (by omega)) (m32_of (by omega)) (fun c1 => absurd c1 (by show ¬ _ ≤ _; omega)) (fun _ => ?_)
      iterate 2 (refine tr_mv rfl (fun _ => rfl) ?_)
      refine tr_at2 hb (m32_of (by omega)) rfl rfl ?_
      rw [hc.1 b hbu, hs, hy]
      refine tr_stat rfl rfl rfl (s_181 (by omega) ?_)
      first | refine tr_ib rfl (fun c2 => ?_) (fun c2 => ?_) | refine tr_ibn rfl (fun c2 => ?_) (fun c2 => ?_)
      · have e6 : digs (y :: rest) = [] := by
          show (if isDig y then _ else _) = _
          rw [if_neg c2]
        rw [e6] at e3
        rw [show done.length = ds.length by simpa using e3]
        iterate 4 (refine tr_mv rfl (fun _ => rfl) ?_)
        refine tr_vc (q := u) rfl (L_O hu) rfl rfl rfl (s_38 (p := f) (d := ds.length) hu (by omega) hS' (by omega) rfl rfl (fun σ2 g1 g2 => ?_))
        iterate 2 (refine tr_mv rfl (fun _ => rfl) ?_)
        exact L2 ds (ss.take f) _ σ2 rfl hne hsp (by rw [hfs]) (by rw [hfs]) g1 (hc.tr g2)
      · rw [digs_cons c2] at e3
        iterate 2 (refine tr_mv rfl (fun _ => rfl) ?_)
        show Tr Ls N 40 8 [some (mP (some u)), some (mP (some t)), some (mP (some b)), some (mI (f : Int)), some (mI (((f + done.length : Nat) : Int) + 1)), none, none] [] σ' post
        rw [show ((f + done.length : Nat) : Int) + 1 = ((f + (done ++ [y]).length : Nat) : Int) by simp; omega]
        simp only [List.length_cons] at e3
        exact ih (done ++ [y]) σ' (by rw [List.append_assoc]; exact e1) (by simp; omega) hS' hc
  iterate 2 (refine tr_mv rfl (fun _ => rfl) ?_)
  refine tr_pi rfl (Or.inl rfl) (L_O hu) (by decide) (L_c hu) (L_n5 hu) ?_
  iterate 2 (refine tr_mv rfl (fun _ => rfl) ?_)
  have := L1 (ss.drop f) [] _ (by rw [List.nil_append, List.take_append_drop]) (by rw [hds]; simp) (elIs_setK (w := 0) hu hS) (chg.rf.setF ⟨rfl, rfl⟩)
  exact this
end GATHER
