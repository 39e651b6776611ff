/-! The class's order of an index, found and kept. -/
/-- what is kept of an order -/
def cOrd (σ : Sg) (X : Nat) (tx : List (List Int)) (en : List EnT) (D : TD) (o : Nat → Int) : Prop := σ.2 (295 + 29 * X) 3 = 0 ∨ (σ.2 (295 + 29 * X) 3 = 1 ∧ σ.1 ((295 + 29 * X) + 1) = ci (ordE tx en D o X) ∧ σ.1 ((295 + 29 * X) + 3) = fwsE tx en D o)
section CORD2
variable {Ls N k pc n n' nn b c t a q kd w d p X : Nat} {L L0 : mLs} {st r as : List mV} {h h' : mH} {σ σ' σ'' : Sg} {post : tP} {x y z x' y' i i' s v m u lv : Int} {xs ys : List Int} {e : mE} {C : Nat → Nat → Prop} {R : Nat → Prop} {tx : List (List Int)} {en : List EnT} {D : TD} {o : Nat → Int}
theorem okPr_in (hE : okEn tx en) (i : Nat) (hi : i < en.length) : in32 (prE en i) := by
  have := hE.1
  rcases hE.2.2 i hi with g | ⟨p, g1, g2, -⟩
  · unfold prE
    omega
  · unfold prE
    omega
theorem prE_iff (en : List EnT) (i : Nat) : prE en i = enP (en.getD i enD) := rfl
theorem s_188 (hX : X < 3) (hT : okTx tx) (hE : okEn tx en) (cT : cTx σ tx) (cE : cEn σ en) (hD2 : okTD D) (hD : tlC (273 + 29 * X) σ D) (hO : opC (273 + 29 * X) σ o) (hc : cOrd σ X tx en D o)
    (K : ∀ σ', σ'.2 (295 + 29 * X) 3 = 1 → σ'.1 ((295 + 29 * X) + 1) = ci (ordE tx en D o X) → σ'.1 ((295 + 29 * X) + 3) = fwsE tx en D o → chg (orR X) (orC X) σ σ' → post (.inl (some (mP (some ((295 + 29 * X) + 1))))) σ') :
    Tr Ls N 188 0 [some (mP (some 2)), some (mI (X : Int)), none, none] [] σ post := by
  have hnt := hT.1
  have hne := hE.1
  have hpr := okEn_pr hE X
  have hord : ordE tx en D o X = ordL (kfE tx en D o) (prE en) (inE en X) en.length := rfl
  have hol := ordL_len (kf := kfE tx en D o) hpr
  -- what holds of every state on the way
  have hD' : ∀ σ', chg (orR X) (orC X) σ σ' → tlC (273 + 29 * X) σ' D := fun σ' g => hD.of g (fun a ha => by omega)
  have hO' : ∀ σ', chg (orR X) (orC X) σ σ' → opC (273 + 29 * X) σ' o := fun σ' g => hO.of g (fun j => by omega)
  have cT' : ∀ σ', chg (orR X) (orC X) σ σ' → cTx σ' tx := fun σ' g => cT.of g hnt (fun a ha => by omega) (by omega)
  have cE' : ∀ σ', chg (orR X) (orC X) σ σ' → cEn σ' en := fun σ' g => cE.of g hne (fun a ha => by omega) (by omega) (fun q i h => by omega)
  iterate 2 (refine tr_mv rfl (fun _ => rfl) ?_)
  refine tr_vc (q := 2) rfl ⟨by decide, by decide +kernel⟩ rfl rfl rfl (s_173 hX ?_)
  iterate 2 (refine tr_mv rfl (fun _ => rfl) ?_)
  refine tr_vc (q := (295 + 29 * X)) rfl (X_O hX) rfl rfl rfl (s_78 hX ?_ (by rcases hc with g | g; exact Or.inl g; exact Or.inr g.1))
  rcases hc with hc | ⟨c1, c2, c3⟩
  · rw [hc]
    refine tr_if2 rfl (m32_of (x := 0) ⟨by decide, by decide⟩) (fun _ => ?_) (fun c9 => absurd rfl c9)
    repeat (first | refine tr_gr rfl ⟨by decide, rfl⟩ (by decide) rfl ?_ | refine tr_gi rfl (by decide) ⟨by decide, rfl⟩ (by decide) rfl rfl ?_ | refine tr_gr rfl (by assumption) (by decide) (by assumption) ?_ | refine tr_gi rfl (by decide) (by assumption) (by decide) (by assumption) (by assumption) ?_ | (refine tr_rem ?_ ?_ rfl ?_; omega; omega) | (refine tr_div ?_ ?_ rfl ?_; omega; omega) | refine tr_mv rfl (fun _ => rfl) ?_ | refine tr_ia2 (m32_of (by omega)) (by omega) rfl (fun _ => rfl) rfl (by decide) (by decide) (fun _ => rfl) ?_ | refine tr_size (by assumption) rfl rfl ?_ | refine tr_at2 (by assumption) (m32_of (by omega)) rfl rfl ?_)
    refine tr_clear r_144 rfl rfl ?_
    iterate 1 (refine tr_mv rfl (fun _ => rfl) ?_)
    refine tr_vc (q := (295 + 29 * X)) rfl (X_O hX) rfl rfl rfl (s_80 hX ?_)
    iterate 2 (refine tr_mv rfl (fun _ => rfl) ?_)
    generalize hσ1 : setF (setR (setR (setR σ 144 []) ((295 + 29 * X) + 1) []) ((295 + 29 * X) + 3) []) (295 + 29 * X) 3 1 = σ1
    have g1 : chg (orR X) (orC X) σ σ1 := by
      rw [← hσ1]
      exact (((chg.rf.setR (by omega)).setR (by omega)).setR (by omega)).setF (by omega)
    have q144 : σ1.1 144 = [] := by
      rw [← hσ1]
      show (setR (setR (setR σ 144 []) ((295 + 29 * X) + 1) []) ((295 + 29 * X) + 3) []).1 144 = []
      rw [setR_ne _ _ (by omega), setR_ne _ _ (by omega), setR_same]
    have q1 : σ1.1 ((295 + 29 * X) + 1) = [] := by
      rw [← hσ1]
      show (setR (setR (setR σ 144 []) ((295 + 29 * X) + 1) []) ((295 + 29 * X) + 3) []).1 ((295 + 29 * X) + 1) = []
      rw [setR_ne _ _ (by omega), setR_same]
    have q3 : σ1.1 ((295 + 29 * X) + 3) = [] := by
      rw [← hσ1]
      show (setR (setR (setR σ 144 []) ((295 + 29 * X) + 1) []) ((295 + 29 * X) + 3) []).1 ((295 + 29 * X) + 3) = []
      rw [setR_same]
    have qf : σ1.2 (295 + 29 * X) 3 = 1 := by rw [← hσ1]; exact setF_same _ _ _ _
    have htl : (topsL (kfE tx en D o) (prE en) (inE en X) en.length).length ≤ en.length := by
      have hfl : (topsL (kfE tx en D o) (prE en) (inE en X) en.length).length = ((List.range en.length).filter (fun e => inE en X e && decide (prE en e = -1))).length := by
        unfold topsL
        rw [fold_len]
        simp
      rw [hfl]
      exact Nat.le_trans (List.length_filter_le _ _) (by simp)
    -- the second loop: the order
    have L2 : ∀ (rest done : List Nat) (σ' : Sg), topsL (kfE tx en D o) (prE en) (inE en X) en.length = done ++ rest → σ'.1 144 = ci (topsL (kfE tx en D o) (prE en) (inE en X) en.length) → σ'.1 ((295 + 29 * X) + 1) = ci (done.flatMap (fun t => t :: subsL (kfE tx en D o) (prE en) en.length t)) → σ'.1 ((295 + 29 * X) + 3) = fwsE tx en D o → σ'.2 (295 + 29 * X) 3 = 1 → (∀ i, i < en.length → σ'.1 (155 + 4 * i) = kfE tx en D o i) → chg (orR X) (orC X) σ σ' → Tr Ls N 188 127 [some (mP (some 2)), some (mI (X : Int)), some (mP (some (295 + 29 * X))), some (mI (done.length : Int))] [] σ' post := by
      intro rest
      induction rest with
      | nil =>
        intro done σ' e z144 z1 z3 zf zk zc
        rw [List.append_nil] at e
        rw [e] at z144
        have hdl : (ci done).length = done.length := by simp
        rw [e] at htl
        repeat (first | refine tr_gr rfl ⟨by decide, rfl⟩ (by decide) rfl ?_ | refine tr_gi rfl (by decide) ⟨by decide, rfl⟩ (by decide) rfl rfl ?_ | refine tr_gr rfl (by assumption) (by decide) (by assumption) ?_ | refine tr_gi rfl (by decide) (by assumption) (by decide) (by assumption) (by assumption) ?_ | (refine tr_rem ?_ ?_ rfl ?_; omega; omega) | (refine tr_div ?_ ?_ rfl ?_; omega; omega) | refine tr_mv rfl (fun _ => rfl) ?_ | refine tr_ia2 (m32_of (by omega)) (by omega) rfl (fun _ => rfl) rfl (by decide) (by decide) (fun _ => rfl) ?_ | refine tr_size (by assumption) rfl rfl ?_ | refine tr_at2 (by assumption) (m32_of (by omega)) rfl rfl ?_)
        refine tr_size r_144 rfl rfl ?_
        rw [z144, hdl]
        refine tr_cmp2 rfl (m32_of (by omega)) (m32_of (by omega)) (fun _ => ?_) (fun c1 => absurd (Int.le_refl _) c1)
        iterate 1 (refine tr_mv rfl (fun _ => rfl) ?_)
        refine tr_vc (q := (295 + 29 * X)) rfl (X_O hX) rfl rfl rfl (s_79 hX ?_)
        refine tr_ret rfl (fun _ => rfl) (K σ' zf ?_ z3 zc)
        rw [z1, ← e]
        rfl
      | cons T rest ih =>
        intro done σ' e z144 z1 z3 zf zk zc
        have hlen : (topsL (kfE tx en D o) (prE en) (inE en X) en.length).length = done.length + 1 + rest.length := by rw [e]; simp; omega
        have hTm : T ∈ topsL (kfE tx en D o) (prE en) (inE en X) en.length := by rw [e]; simp
        have hTn := ((tops_spec (kf := kfE tx en D o) (pr := prE en) (inI := inE en X) (n := en.length)).2 T).mp hTm
        have hg : rget (σ'.1 144) (done.length : Int) = (T : Int) := by
          rw [z144, e, show ci (done ++ T :: rest) = ci done ++ (T : Int) :: ci rest by simp]
          exact rget_mid (by simp)
        have hcap : (done.flatMap (fun t => t :: subsL (kfE tx en D o) (prE en) en.length t)).length + 1 + (subsL (kfE tx en D o) (prE en) en.length T).length ≤ 24 := by
          have h1 : (ordL (kfE tx en D o) (prE en) (inE en X) en.length).length = ((done ++ T :: rest).flatMap (fun t => t :: subsL (kfE tx en D o) (prE en) en.length t)).length := by rw [← e]; rfl
          rw [List.flatMap_append, List.flatMap_cons, List.length_append, List.length_append, List.length_cons] at h1
          omega
        generalize hF : done.flatMap (fun t => t :: subsL (kfE tx en D o) (prE en) en.length t) = F at *
        have hFl : (ci F).length = F.length := by simp
        repeat (first | refine tr_gr rfl ⟨by decide, rfl⟩ (by decide) rfl ?_ | refine tr_gi rfl (by decide) ⟨by decide, rfl⟩ (by decide) rfl rfl ?_ | refine tr_gr rfl (by assumption) (by decide) (by assumption) ?_ | refine tr_gi rfl (by decide) (by assumption) (by decide) (by assumption) (by assumption) ?_ | (refine tr_rem ?_ ?_ rfl ?_; omega; omega) | (refine tr_div ?_ ?_ rfl ?_; omega; omega) | refine tr_mv rfl (fun _ => rfl) ?_ | refine tr_ia2 (m32_of (by omega)) (by omega) rfl (fun _ => rfl) rfl (by decide) (by decide) (fun _ => rfl) ?_ | refine tr_size (by assumption) rfl rfl ?_ | refine tr_at2 (by assumption) (m32_of (by omega)) rfl rfl ?_)
        refine tr_size r_144 rfl rfl ?_
        rw [z144, show ((ci (topsL (kfE tx en D o) (prE en) (inE en X) en.length)).length : Int) = ((done.length + 1 + rest.length : Nat) : Int) by rw [← hlen]; simp]
        refine tr_cmp2 rfl (m32_of (by omega)) (m32_of (by omega)) (fun c1 => absurd c1 (by show ¬ _ ≤ _; omega)) (fun _ => ?_)
        iterate 1 (refine tr_mv rfl (fun _ => rfl) ?_)
        refine tr_vc (q := (295 + 29 * X)) rfl (X_O hX) rfl rfl rfl (s_79 hX ?_)
        repeat (first | refine tr_gr rfl ⟨by decide, rfl⟩ (by decide) rfl ?_ | refine tr_gi rfl (by decide) ⟨by decide, rfl⟩ (by decide) rfl rfl ?_ | refine tr_gr rfl (by assumption) (by decide) (by assumption) ?_ | refine tr_gi rfl (by decide) (by assumption) (by decide) (by assumption) (by assumption) ?_ | (refine tr_rem ?_ ?_ rfl ?_; omega; omega) | (refine tr_div ?_ ?_ rfl ?_; omega; omega) | refine tr_mv rfl (fun _ => rfl) ?_ | refine tr_ia2 (m32_of (by omega)) (by omega) rfl (fun _ => rfl) rfl (by decide) (by decide) (fun _ => rfl) ?_ | refine tr_size (by assumption) rfl rfl ?_ | refine tr_at2 (by assumption) (m32_of (by omega)) rfl rfl ?_)
        refine tr_at2 r_144 (m32_of (by omega)) rfl rfl ?_
        rw [hg]
        refine tr_put (X_r0 hX) (by omega) rfl rfl ?_
        rw [z1, rput_lt (by omega)]
        repeat (first | refine tr_gr rfl ⟨by decide, rfl⟩ (by decide) rfl ?_ | refine tr_gi rfl (by decide) ⟨by decide, rfl⟩ (by decide) rfl rfl ?_ | refine tr_gr rfl (by assumption) (by decide) (by assumption) ?_ | refine tr_gi rfl (by decide) (by assumption) (by decide) (by assumption) (by assumption) ?_ | (refine tr_rem ?_ ?_ rfl ?_; omega; omega) | (refine tr_div ?_ ?_ rfl ?_; omega; omega) | refine tr_mv rfl (fun _ => rfl) ?_ | refine tr_ia2 (m32_of (by omega)) (by omega) rfl (fun _ => rfl) rfl (by decide) (by decide) (fun _ => rfl) ?_ | refine tr_size (by assumption) rfl rfl ?_ | refine tr_at2 (by assumption) (m32_of (by omega)) rfl rfl ?_)
        refine tr_at2 r_144 (m32_of (by omega)) rfl rfl ?_
        rw [setR_ne _ _ (show 144 ≠ (295 + 29 * X) + 1 by omega), hg]
        iterate 1 (refine tr_mv rfl (fun _ => rfl) ?_)
        refine tr_vc (q := (295 + 29 * X)) rfl (X_O hX) rfl rfl rfl (s_79 hX ?_)
        have zc2 : chg (orR X) (orC X) σ (setR σ' ((295 + 29 * X) + 1) (ci F ++ [(T : Int)])) := zc.setR (by omega)
        refine tr_vc (q := 2) rfl ⟨by decide, by decide +kernel⟩ rfl rfl rfl (s_190 (kf := kfE tx en D o) (pre := F ++ [T]) (cE' _ zc2) hne (okPr_in hE) (X_r0 hX) (by omega) (by omega) (fun i hi => ?_) (by rw [setR_same]; simp) (by simp; omega) (by omega) ?_)
        · rw [setR_ne _ _ (by omega)]
          exact zk i hi
        · rw [setR_setR]
          iterate 2 (refine tr_mv rfl (fun _ => rfl) ?_)
          show Tr Ls N 188 127 [some (mP (some 2)), some (mI (X : Int)), some (mP (some (295 + 29 * X))), some (mI ((done.length : Int) + 1))] [] _ post
          rw [show (done.length : Int) + 1 = ((done ++ [T]).length : Int) by simp]
          refine ih (done ++ [T]) _ (by rw [e]; simp) (by rw [setR_ne _ _ (by omega)]; exact z144) ?_ (by rw [setR_ne _ _ (by omega)]; exact z3) zf (fun i hi => by rw [setR_ne _ _ (by omega)]; exact zk i hi) (zc.setR (by omega))
          rw [setR_same, List.flatMap_append, hF]
          simp
    -- the first loop: keys, first weights, what has no parent
    have L1 : ∀ (d i : Nat) (σ' : Sg), i + d = en.length → σ'.1 144 = ci (((List.range i).filter (fun e => inE en X e && decide (prE en e = -1))).foldl (insK (kfE tx en D o)) []) → σ'.1 ((295 + 29 * X) + 1) = [] → σ'.1 ((295 + 29 * X) + 3) = (List.range i).map (fwE tx en D o) → σ'.2 (295 + 29 * X) 3 = 1 → (∀ j, j < i → σ'.1 (155 + 4 * j) = kfE tx en D o j) → chg (orR X) (orC X) σ σ' → Tr Ls N 188 31 [some (mP (some 2)), some (mI (X : Int)), some (mP (some (295 + 29 * X))), some (mI (i : Int))] [] σ' post := by
      intro d
      induction d with
      | zero =>
        intro i σ' ei z144 z1 z3 zf zk zc
        rw [show i = en.length by omega] at z144 z3 zk ⊢
        repeat (first | refine tr_gr rfl ⟨by decide, rfl⟩ (by decide) rfl ?_ | refine tr_gi rfl (by decide) ⟨by decide, rfl⟩ (by decide) rfl rfl ?_ | refine tr_gr rfl (by assumption) (by decide) (by assumption) ?_ | refine tr_gi rfl (by decide) (by assumption) (by decide) (by assumption) (by assumption) ?_ | (refine tr_rem ?_ ?_ rfl ?_; omega; omega) | (refine tr_div ?_ ?_ rfl ?_; omega; omega) | refine tr_mv rfl (fun _ => rfl) ?_ | refine tr_ia2 (m32_of (by omega)) (by omega) rfl (fun _ => rfl) rfl (by decide) (by decide) (fun _ => rfl) ?_ | refine tr_size (by assumption) rfl rfl ?_ | refine tr_at2 (by assumption) (m32_of (by omega)) rfl rfl ?_)
        rw [(cE' σ' zc).1]
        refine tr_cmp2 rfl (m32_of (by omega)) (m32_of (by omega)) (fun _ => ?_) (fun c1 => absurd (Int.le_refl _) c1)
        iterate 2 (refine tr_mv rfl (fun _ => rfl) ?_)
        exact L2 _ [] σ' rfl z144 (by rw [z1]; rfl) z3 zf zk zc
      | succ d ih =>
        intro i σ' ei z144 z1 z3 zf zk zc
        have hi : i < en.length := by omega
        have he1 := hE.2.1 _ (en_mem hi)
        have hfo := frm_ok hT he1
        have ce := cE' σ' zc
        have ct := cT' σ' zc
        have hti := he1.1
        have hsucc := range_filter_succ (fun e => inE en X e && decide (prE en e = -1)) i
        generalize hacc : ((List.range i).filter (fun e => inE en X e && decide (prE en e = -1))).foldl (insK (kfE tx en D o)) [] = acc at *
        have hal : acc.length ≤ i := by
          rw [← hacc, fold_len]
          have := List.length_filter_le (fun e => inE en X e && decide (prE en e = -1)) (List.range i)
          simp at this ⊢
          exact this
        have hmem : ∀ y ∈ acc, y < i := by
          have h := (tops_spec (kf := kfE tx en D o) (pr := prE en) (inI := inE en X) (n := i)).2
          intro y hy
          rw [← hacc] at hy
          exact ((h y).mp hy).1
        -- behind an entry's step
        have h119 : ∀ σ', σ'.1 144 = ci (((List.range (i + 1)).filter (fun e => inE en X e && decide (prE en e = -1))).foldl (insK (kfE tx en D o)) []) → σ'.1 ((295 + 29 * X) + 1) = [] → σ'.1 ((295 + 29 * X) + 3) = (List.range (i + 1)).map (fwE tx en D o) → σ'.2 (295 + 29 * X) 3 = 1 → (∀ j, j < i + 1 → σ'.1 (155 + 4 * j) = kfE tx en D o j) → chg (orR X) (orC X) σ σ' → Tr Ls N 188 119 [some (mP (some 2)), some (mI (X : Int)), some (mP (some (295 + 29 * X))), some (mI (i : Int))] [] σ' post := by
          intro σ' y144 y1 y3 yf yk yc
          iterate 2 (refine tr_mv rfl (fun _ => rfl) ?_)
          show Tr Ls N 188 31 [some (mP (some 2)), some (mI (X : Int)), some (mP (some (295 + 29 * X))), some (mI ((i : Int) + 1))] [] σ' post
          rw [show (i : Int) + 1 = ((i + 1 : Nat) : Int) by omega]
          exact ih (i + 1) σ' (by omega) y144 y1 y3 yf yk yc
        repeat (first | refine tr_gr rfl ⟨by decide, rfl⟩ (by decide) rfl ?_ | refine tr_gi rfl (by decide) ⟨by decide, rfl⟩ (by decide) rfl rfl ?_ | refine tr_gr rfl (by assumption) (by decide) (by assumption) ?_ | refine tr_gi rfl (by decide) (by assumption) (by decide) (by assumption) (by assumption) ?_ | (refine tr_rem ?_ ?_ rfl ?_; omega; omega) | (refine tr_div ?_ ?_ rfl ?_; omega; omega) | refine tr_mv rfl (fun _ => rfl) ?_ | refine tr_ia2 (m32_of (by omega)) (by omega) rfl (fun _ => rfl) rfl (by decide) (by decide) (fun _ => rfl) ?_ | refine tr_size (by assumption) rfl rfl ?_ | refine tr_at2 (by assumption) (m32_of (by omega)) rfl rfl ?_)
        rw [ce.1]
        refine tr_cmp2 rfl (m32_of (by omega)) (m32_of (by omega)) (fun c1 => absurd c1 (by show ¬ _ ≤ _; omega)) (fun _ => ?_)
        iterate 3 (refine tr_mv rfl (fun _ => rfl) ?_)
        refine tr_vc (q := 2) rfl ⟨by decide, by decide +kernel⟩ rfl rfl rfl (s_171 (show i < 24 by omega) ?_)
        repeat (first | refine tr_gr rfl ⟨by decide, rfl⟩ (by decide) rfl ?_ | refine tr_gi rfl (by decide) ⟨by decide, rfl⟩ (by decide) rfl rfl ?_ | refine tr_gr rfl (by assumption) (by decide) (by assumption) ?_ | refine tr_gi rfl (by decide) (by assumption) (by decide) (by assumption) (by assumption) ?_ | (refine tr_rem ?_ ?_ rfl ?_; omega; omega) | (refine tr_div ?_ ?_ rfl ?_; omega; omega) | refine tr_mv rfl (fun _ => rfl) ?_ | refine tr_ia2 (m32_of (by omega)) (by omega) rfl (fun _ => rfl) rfl (by decide) (by decide) (fun _ => rfl) ?_ | refine tr_size (by assumption) rfl rfl ?_ | refine tr_at2 (by assumption) (m32_of (by omega)) rfl rfl ?_)
        have tk := ce.2.2 i (by omega)
        refine tr_vc (q := 2) rfl ⟨by decide, by decide +kernel⟩ rfl rfl rfl (s_193 (p := i) (by omega) (ce.2.1 i hi).1 tk.1 tk.2.1 (by omega) (ct.2 _ hti) (by have := he1.2.2.2.2.1; omega) he1.2.2.1 ?_)
        have hform : (tx.getD (enT (en.getD i enD)) []).drop (enA (en.getD i enD)) ++ (if enK (en.getD i enD) = 2 then 28 :: (tx.getD (enT (en.getD i enD)) []).take (enA (en.getD i enD)) else []) = frm tx (en.getD i enD) := rfl
        rw [hform]
        have zc2 : chg (orR X) (orC X) σ (setR σ' 142 (frm tx (en.getD i enD))) := zc.setR (by omega)
        repeat (first | refine tr_gr rfl ⟨by decide, rfl⟩ (by decide) rfl ?_ | refine tr_gi rfl (by decide) ⟨by decide, rfl⟩ (by decide) rfl rfl ?_ | refine tr_gr rfl (by assumption) (by decide) (by assumption) ?_ | refine tr_gi rfl (by decide) (by assumption) (by decide) (by assumption) (by assumption) ?_ | (refine tr_rem ?_ ?_ rfl ?_; omega; omega) | (refine tr_div ?_ ?_ rfl ?_; omega; omega) | refine tr_mv rfl (fun _ => rfl) ?_ | refine tr_ia2 (m32_of (by omega)) (by omega) rfl (fun _ => rfl) rfl (by decide) (by decide) (fun _ => rfl) ?_ | refine tr_size (by assumption) rfl rfl ?_ | refine tr_at2 (by assumption) (m32_of (by omega)) rfl rfl ?_)
        refine tr_vc (q := 2) rfl ⟨by decide, by decide +kernel⟩ rfl rfl rfl (s_172 hX ?_)
        repeat (first | refine tr_gr rfl ⟨by decide, rfl⟩ (by decide) rfl ?_ | refine tr_gi rfl (by decide) ⟨by decide, rfl⟩ (by decide) rfl rfl ?_ | refine tr_gr rfl (by assumption) (by decide) (by assumption) ?_ | refine tr_gi rfl (by decide) (by assumption) (by decide) (by assumption) (by assumption) ?_ | (refine tr_rem ?_ ?_ rfl ?_; omega; omega) | (refine tr_div ?_ ?_ rfl ?_; omega; omega) | refine tr_mv rfl (fun _ => rfl) ?_ | refine tr_ia2 (m32_of (by omega)) (by omega) rfl (fun _ => rfl) rfl (by decide) (by decide) (fun _ => rfl) ?_ | refine tr_size (by assumption) rfl rfl ?_ | refine tr_at2 (by assumption) (m32_of (by omega)) rfl rfl ?_)
        refine tr_vc (q := 2) rfl ⟨by decide, by decide +kernel⟩ rfl rfl rfl (s_170 (show i < 30 by omega) ?_)
        refine tr_vc (q := 108) rfl ⟨by decide, by decide +kernel⟩ rfl rfl rfl (s_2 (d := 4) (t_Tl hX) hD2 (hD' _ zc2) (hO' _ zc2) r_142 (by omega) (setR_same _ _ _) hfo.1 hfo.2.1 (by decide) ⟨r_K (by omega), by omega, by omega⟩ (by omega) (fun σ3 y1 y2 => ?_))
        have zc3 : chg (orR X) (orC X) σ σ3 := zc2.tr (y2.wk (fun a ha => by omega) (fun q j hq => by omega))
        have w144 : σ3.1 144 = ci acc := by rw [y2.1 144 (by omega), setR_ne _ _ (by omega), z144]
        have w1 : σ3.1 ((295 + 29 * X) + 1) = [] := by rw [y2.1 _ (by omega), setR_ne _ _ (by omega), z1]
        have w3 : σ3.1 ((295 + 29 * X) + 3) = (List.range i).map (fwE tx en D o) := by rw [y2.1 _ (by omega), setR_ne _ _ (by omega), z3]
        have wf : σ3.2 (295 + 29 * X) 3 = 1 := by rw [y2.2 _ _ (by omega)]; exact zf
        have wk : ∀ j, j < i + 1 → σ3.1 (155 + 4 * j) = kfE tx en D o j := fun j hj => by
          by_cases ej : j = i
          · rw [ej]; exact y1
          · rw [y2.1 _ (by omega), setR_ne _ _ (by omega)]
            exact zk j (by omega)
        iterate 3 (refine tr_mv rfl (fun _ => rfl) ?_)
        refine tr_vc (q := 2) rfl ⟨by decide, by decide +kernel⟩ rfl rfl rfl (s_170 (show i < 30 by omega) ?_)
        refine tr_stat rfl rfl rfl (s_3 (r_K (by omega)) ?_)
        rw [wk i (by omega), show rget (kfE tx en D o i) 0 - 1 = fwE tx en D o i from rfl]
        have hkin := keyOf_in (d := 4) (o := o) hD2 hfo.1 hfo.2.1
        have hfw : in32 (fwE tx en D o i) := by
          have := rget_in (xs := kfE tx en D o i) (fun w hw => by have := hkin w hw; omega) 0
          unfold fwE rget at *
          split at this
          · rename_i g
            rw [if_pos g]
            have := hkin _ (show (kfE tx en D o i).getD (0 : Int).toNat 0 ∈ kfE tx en D o i from by
              rw [List.getD_eq_getElem?_getD, List.getElem?_eq_getElem (by omega)]
              exact List.getElem_mem _)
            omega
          · rename_i g
            rw [if_neg g]
            omega
        refine tr_vc (q := (295 + 29 * X)) rfl (X_O hX) rfl rfl rfl (s_81 hX hfw (by rw [w3]; simp; omega) ?_)
        rw [w3]
        have zc4 : chg (orR X) (orC X) σ (setR σ3 ((295 + 29 * X) + 3) ((List.range i).map (fwE tx en D o) ++ [fwE tx en D o i])) := zc3.setR (by omega)
        have v144 : (setR σ3 ((295 + 29 * X) + 3) ((List.range i).map (fwE tx en D o) ++ [fwE tx en D o i])).1 144 = ci acc := by rw [setR_ne _ _ (by omega)]; exact w144
        have v1 : (setR σ3 ((295 + 29 * X) + 3) ((List.range i).map (fwE tx en D o) ++ [fwE tx en D o i])).1 ((295 + 29 * X) + 1) = [] := by rw [setR_ne _ _ (by omega)]; exact w1
        have v3 : (setR σ3 ((295 + 29 * X) + 3) ((List.range i).map (fwE tx en D o) ++ [fwE tx en D o i])).1 ((295 + 29 * X) + 3) = (List.range (i + 1)).map (fwE tx en D o) := by rw [setR_same, List.range_succ]; simp
        have vf : (setR σ3 ((295 + 29 * X) + 3) ((List.range i).map (fwE tx en D o) ++ [fwE tx en D o i])).2 (295 + 29 * X) 3 = 1 := wf
        have vk : ∀ j, j < i + 1 → (setR σ3 ((295 + 29 * X) + 3) ((List.range i).map (fwE tx en D o) ++ [fwE tx en D o i])).1 (155 + 4 * j) = kfE tx en D o j := fun j hj => by rw [setR_ne _ _ (by omega)]; exact wk j hj
        generalize setR σ3 ((295 + 29 * X) + 3) ((List.range i).map (fwE tx en D o) ++ [fwE tx en D o i]) = σ4 at *
        have ce4 := cE' σ4 zc4
        have hno : ¬ (inE en X i = true ∧ prE en i = -1) → Tr Ls N 188 119 [some (mP (some 2)), some (mI (X : Int)), some (mP (some (295 + 29 * X))), some (mI (i : Int))] [] σ4 post := by
          intro g
          refine h119 σ4 ?_ v1 v3 vf vk zc4
          rw [hsucc, if_neg (fun g2 => g (by simpa using g2)), List.append_nil, hacc]
          exact v144
        iterate 2 (refine tr_mv rfl (fun _ => rfl) ?_)
        refine tr_vc (q := 2) rfl ⟨by decide, by decide +kernel⟩ rfl rfl rfl (s_171 (show i < 24 by omega) ?_)
        iterate 1 (refine tr_mv rfl (fun _ => rfl) ?_)
        refine tr_vc (q := (360 + 5 * i)) rfl (E_O (e_E (by omega))) rfl rfl rfl (s_54 (e_E (by omega)) (ce4.2.1 i hi).2.2 (by have := he1.2.1; omega) hX ?_)
        first | refine tr_ib rfl (fun q1 => ?_) (fun q1 => ?_) | refine tr_ibn rfl (fun q1 => ?_) (fun q1 => ?_)
        · exact hno (fun g => q1 (of_decide_eq_true g.1))
        · iterate 2 (refine tr_mv rfl (fun _ => rfl) ?_)
          refine tr_vc (q := 2) rfl ⟨by decide, by decide +kernel⟩ rfl rfl rfl (s_171 (show i < 24 by omega) ?_)
          have hpin := okPr_in hE i hi
          refine tr_vc (q := (360 + 5 * i)) rfl (E_O (e_E (by omega))) rfl rfl rfl (s_52 (e_E (by omega)) (by rw [(ce4.2.1 i hi).2.1]; exact hpin) ?_)
          rw [(ce4.2.1 i hi).2.1]
          first | refine tr_ib rfl (fun q2 => ?_) (fun q2 => ?_) | refine tr_ibn rfl (fun q2 => ?_) (fun q2 => ?_)
          · exact hno (fun g => q2 g.2)
          · repeat (first | refine tr_gr rfl ⟨by decide, rfl⟩ (by decide) rfl ?_ | refine tr_gi rfl (by decide) ⟨by decide, rfl⟩ (by decide) rfl rfl ?_ | refine tr_gr rfl (by assumption) (by decide) (by assumption) ?_ | refine tr_gi rfl (by decide) (by assumption) (by decide) (by assumption) (by assumption) ?_ | (refine tr_rem ?_ ?_ rfl ?_; omega; omega) | (refine tr_div ?_ ?_ rfl ?_; omega; omega) | refine tr_mv rfl (fun _ => rfl) ?_ | refine tr_ia2 (m32_of (by omega)) (by omega) rfl (fun _ => rfl) rfl (by decide) (by decide) (fun _ => rfl) ?_ | refine tr_size (by assumption) rfl rfl ?_ | refine tr_at2 (by assumption) (m32_of (by omega)) rfl rfl ?_)
            refine tr_vc (q := 2) rfl ⟨by decide, by decide +kernel⟩ rfl rfl rfl (s_191m (kf := kfE tx en D o) (pre := []) (l := acc) r_144 (by omega) (show i < 30 by omega) (vk i (by omega)) (by rw [List.nil_append]; exact v144) (fun y hy => ⟨by have := hmem y hy; omega, vk y (by have := hmem y hy; omega)⟩) (by simp; omega) rfl ?_)
            refine h119 _ ?_ (by rw [setR_ne _ _ (by omega)]; exact v1) (by rw [setR_ne _ _ (by omega)]; exact v3) vf (fun j hj => by rw [setR_ne _ _ (by omega)]; exact vk j hj) (zc4.setR (by omega))
            rw [setR_same, hsucc, if_pos (by
              have h1 : inE en X i = true := decide_eq_true q1
              have h2 : prE en i = -1 := Decidable.byContradiction q2
              simp [h1, h2]), List.foldl_append, hacc]
            rfl
    exact L1 en.length 0 σ1 (by omega) (by rw [q144]; rfl) q1 (by rw [q3]; rfl) qf (fun j hj => absurd hj (Nat.not_lt_zero _)) g1
  · rw [c1]
    refine tr_if2 rfl (m32_of (x := 1) ⟨by decide, by decide⟩) (fun c9 => absurd c9 (by decide)) (fun _ => ?_)
    iterate 1 (refine tr_mv rfl (fun _ => rfl) ?_)
    refine tr_vc (q := (295 + 29 * X)) rfl (X_O hX) rfl rfl rfl (s_79 hX ?_)
    exact tr_ret rfl (fun _ => rfl) (K σ c1 c2 c3 chg.rf)
theorem s_189 (K : ∀ σ', (∀ X, X < 3 → σ'.2 (295 + 29 * X) 3 = 0) → chg noR (fun q i => ∃ X, X < 3 ∧ q = (295 + 29 * X) ∧ i = 3) σ σ' → post (.inl none) σ') : Tr Ls N 189 0 [some (mP (some 2)), none] [] σ post := by
  have loop : ∀ (d i : Nat) (σ' : Sg), i + d = 3 → (∀ X, X < i → σ'.2 (295 + 29 * X) 3 = 0) → chg noR (fun q i => ∃ X, X < 3 ∧ q = (295 + 29 * X) ∧ i = 3) σ σ' → Tr Ls N 189 2 [some (mP (some 2)), some (mI (i : Int))] [] σ' post := by
    intro d
    induction d with
    | zero =>
      intro i σ' e h1 h2
      iterate 2 (refine tr_mv rfl (fun _ => rfl) ?_)
      refine tr_cmp2 rfl (m32_of (by omega)) (m32_of (x := 3) ⟨by decide, by decide⟩) (fun _ => ?_) (fun c1 => absurd (show (3 : Int) ≤ (i : Int) by omega) c1)
      exact tr_ret rfl (fun _ => rfl) (K σ' (by rw [show i = 3 by omega] at h1; exact h1) h2)
    | succ d ih =>
      intro i σ' e h1 h2
      iterate 2 (refine tr_mv rfl (fun _ => rfl) ?_)
      refine tr_cmp2 rfl (m32_of (by omega)) (m32_of (x := 3) ⟨by decide, by decide⟩) (fun c1 => absurd c1 (by show ¬ (3 : Int) ≤ _; omega)) (fun _ => ?_)
      iterate 2 (refine tr_mv rfl (fun _ => rfl) ?_)
      refine tr_vc (q := 2) rfl ⟨by decide, by decide +kernel⟩ rfl rfl rfl (s_173 (show i < 3 by omega) ?_)
      refine tr_vc (q := (295 + 29 * i)) rfl (X_O (by omega)) rfl rfl rfl (s_83 (by omega) ?_)
      iterate 2 (refine tr_mv rfl (fun _ => rfl) ?_)
      show Tr Ls N 189 2 [some (mP (some 2)), some (mI ((i : Int) + 1))] [] _ post
      rw [show (i : Int) + 1 = ((i + 1 : Nat) : Int) by omega]
      refine ih (i + 1) _ (by omega) (fun X hX => ?_) (h2.setF ⟨i, by omega, rfl, rfl⟩)
      rw [setF_get]
      split
      · rfl
      · rename_i g
        exact h1 X (Decidable.byContradiction fun g2 => g ⟨by omega, rfl⟩)
  iterate 2 (refine tr_mv rfl (fun _ => rfl) ?_)
  exact loop 3 0 σ rfl (fun X hX => absurd hX (Nat.not_lt_zero _)) chg.rf
end CORD2
