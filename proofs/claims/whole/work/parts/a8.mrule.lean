/-! The model: rules, tailorings adopted, options. -/
def mDr (σ : Sg) (ds dA : List Int) : Prop := σ.2 480 4 = (ds.length : Int) ∧ (∀ i, i < ds.length → σ.2 483 i = ds.getD i 0) ∧ okB (bMo σ) (kMo σ) ∧ (∀ s ∈ ds, okS (bMo σ) s) ∧ sorted1 (ds.flatMap (apart1 (bMo σ) (kMo σ))) = dA
theorem a40_48 {l : List Int} (h : okA40 l) : ∀ x ∈ l, 0 ≤ x ∧ x < 48 := fun x hx => by
  have := h x hx
  omega
section MRULE
variable {Ls N k pc n n' nn b c t u a q d p X T F kd w : Nat} {L L0 : mLs} {st r as : List mV} {h h' : mH} {σ σ' σ'' : Sg} {post : tP} {x y z x' y' i i' s v m how it : Int} {xs ys its lvs sv sg hs is ans an ds dA : List Int} {e : mE} {C : Nat → Nat → Prop} {D : TD} {R RF : RuT} {Rr : Nat → Prop} {tx : List (List Int)} {en : List EnT} {D3 : Nat → TD} {o3 : Nat → Nat → Int} {R3 : Nat → RuT}
theorem mDr.of (h : mDr σ ds dA) (ho : only C σ σ') (hC : ∀ q i, C q i → ¬ (q = 481 ∨ q = 482 ∨ q = 483 ∨ (q = 480 ∧ i = 4))) : mDr σ' ds dA := by
  unfold mDr
  rw [bMo_of ho (fun i g => hC _ _ g (by omega)), kMo_of ho (fun i g => hC _ _ g (by omega))]
  exact ⟨(ho.2 _ _ (fun g => hC _ _ g (by omega))).trans h.1, fun i hi => (ho.2 _ _ (fun g => hC _ _ g (by omega))).trans (h.2.1 i hi), h.2.2⟩
theorem mAn.of (h : mAn σ an) (ho : only C σ σ') (hC : ∀ q i, C q i → ¬ (q = 484 ∨ (q = 480 ∧ i = 6))) : mAn σ' an := by
  refine ⟨?_, h.2.only ho (fun i _ _ g => hC _ _ g (by omega))⟩
  rw [ho.2 480 6 (fun g => hC _ _ g (by omega))]
  exact h.1
theorem ruM.of (h : ruM T σ hs ans is) (ho : only C σ σ') (hC : ∀ q i, C q i → ¬ (499 ≤ q ∧ q ≤ 502)) : ruM T σ' hs ans is :=
  ⟨(ho.2 _ _ (fun g => hC _ _ g (by omega))).trans h.1, h.2.1.only ho (fun i _ _ g => hC _ _ g (by omega)), h.2.2.1.only ho (fun i _ _ g => hC _ _ g (by omega)), h.2.2.2.only ho (fun i _ _ g => hC _ _ g (by omega))⟩
theorem mX3.of (h : mX3 σ D3 o3) (ho : only C σ σ') (hC : ∀ q i, C q i → ¬ ((490 ≤ q ∧ q ≤ 498) ∨ q = 503)) : mX3 σ' D3 o3 := fun X hX => by
  obtain ⟨u1, u2, u3⟩ := h X hX
  exact ⟨u1, u2.el ho (fun q i h1 h2 g => hC _ _ g (by omega)), u3.el ho (fun i g => hC _ _ g (by omega))⟩
abbrev cRul (X q i : Nat) : Prop := cRm X q i ∨ cTl X q i ∨ cCz q i ∨ (q = 480 ∧ (i = 4 ∨ i = 6))
theorem s_248 (hT : okTx tx) (hE : okEn tx en) (cT : mTx σ tx) (cE : mEn σ en) (hX3 : mX3 σ D3 o3) (hR3 : ∀ X, X < 3 → ruM X σ (rHs (R3 X)) (rAs (R3 X)) (rIs (R3 X)) ∧ okRu (D3 X) (R3 X)) (hd : mDr σ ds dA) (hd2 : okDr ds dA) (ha : mAn σ an) (ha2 : an.length ≤ 30) (ha40 : okA40 an) (hi : in32 i) (hx : in32 x)
    (K1 : ∀ σ', ¬ (0 ≤ i ∧ i < 3) → σ'.2 480 0 = 1 → only cCz σ σ' → post (.inl (some (mI 0))) σ')
    (K2 : ∀ σ', (0 ≤ i ∧ i < 3) → ¬ (0 ≤ x ∧ x ≤ 7) → σ'.2 480 0 = 2 → only cCz σ σ' → post (.inl (some (mI 0))) σ')
    (K3 : ∀ (X : Nat) (σ' : Sg), i = (X : Int) → X < 3 → (0 ≤ x ∧ x ≤ 7) → ¬ canTellP (D3 X).1 (D3 X).2.2.2 (R3 X).length x (cdC an) (cdC dA) → σ'.2 480 0 = 3 → only cCz σ σ' → post (.inl (some (mI 0))) σ')
    (K4 : ∀ (X : Nat) (σ' : Sg), i = (X : Int) → X < 3 → (0 ≤ x ∧ x ≤ 7) → canTellP (D3 X).1 (D3 X).2.2.2 (R3 X).length x (cdC an) (cdC dA) → tlM X σ' (tellD (D3 X) x (cdC an) (cdC dA)) → ruM X σ' (rHs (R3 X ++ [(x, cdC an, cdC dA)])) (rAs (R3 X ++ [(x, cdC an, cdC dA)])) (rIs (R3 X ++ [(x, cdC an, cdC dA)])) → σ'.2 480 6 = -1 → σ'.2 480 4 = 0 → σ'.2 524 X = ((ordE tx en (D3 X) (o3 X) X).length : Int) → mseg σ' 523 (24 * X) (ci (ordE tx en (D3 X) (o3 X) X)) → σ'.2 480 0 = 0 → only (cRul X) σ σ' → post (.inl (some (mI ((R3 X).length + 1 : Int)))) σ') :
    Tr Ls N 248 0 [some (mP (some 480)), some (mI i), some (mI x), none, none, none, none] [] σ post := by
  obtain ⟨dk1, dk2, dk3, dk4⟩ := hd2
  have oa := cdC_ok ha40
  have oi := cdC_ok dk3
  iterate 1 (refine tr_mv rfl (fun _ => rfl) ?_)
  refine tr_stat rfl rfl rfl (s_219 hi ?_)
  iterate 2 (refine tr_mv rfl (fun _ => rfl) ?_)
  refine tr_vc (q := 480) rfl isO_480 rfl rfl rfl (s_247 ha ha2 (a40_48 ha40) (fun σ1 r1 o1 => ?_))
  rw [cdR_eq ha40]
  have d1 := hd.of o1 (fun q i g => by have := cRow_in g; omega)
  iterate 2 (refine tr_mv rfl (fun _ => rfl) ?_)
  refine tr_vc (q := 480) rfl isO_480 rfl rfl rfl (s_224 (ds := ds) d1.2.2.1 d1.1 dk1 d1.2.1 d1.2.2.2.1 (fun σ2 r2 o2 => ?_))
  rw [d1.2.2.2.2] at r2
  have o12 : only cCz σ σ2 := (o1.wk (fun q i h => Or.inl (Or.inl (Or.inl (Or.inl h))))).tr (o2.wk (fun q i h => Or.inl (Or.inl (Or.inl (Or.inl h)))))
  iterate 1 (refine tr_mv rfl (fun _ => rfl) ?_)
  refine tr_vc (q := 480) rfl isO_480 rfl rfl rfl (s_245 r2 (by omega) (a40_48 dk3) ?_)
  rw [cdR_eq dk3]
  have d2 := hd.of o12 (fun q i g => by have := cCz_in g; omega)
  have a2 := ha.of o12 (fun q i g => by have := cCz_in g; omega)
  have bad : ∀ (v6 : Option mV) (f c : Int), c ≠ 0 → in32 c → (∀ σ', σ'.2 480 0 = c → only cCz σ σ' → post (.inl (some (mI 0))) σ') → Tr Ls N 248 103 [some (mP (some 480)), some (mI i), some (mI x), some (mI f), some (mI (cdM (cdC an))), some (mI (cdM (cdC dA))), v6] [mI c, mP (some 480)] σ2 post := by
    intro v6 f c h1 h2 h3
    refine tr_vc (q := 480) rfl isO_480 rfl rfl rfl (s_210 h2 ?_)
    rw [b2, if_neg h1]
    repeat (refine tr_mv rfl (fun _ => rfl) ?_)
    exact tr_ri rfl rfl (h3 _ (setF_same ..) (o12.setF (Or.inr ⟨rfl, rfl⟩)))
  by_cases g1 : 0 ≤ i ∧ i < 3
  · rw [b2_pos g1]
    obtain ⟨X, rfl⟩ : ∃ X : Nat, i = (X : Int) := ⟨i.toNat, by omega⟩
    have hX : X < 3 := by omega
    obtain ⟨y1, y2, y3⟩ := hX3 X hX
    obtain ⟨r1', r2'⟩ := hR3 X hX
    -- the checks, with can on top
    have t68 : ∀ v : Int, (v = 0 ∨ v = 1) → (v = 1 → (0 ≤ x ∧ x ≤ 7) ∧ canTellP (D3 X).1 (D3 X).2.2.2 (R3 X).length x (cdC an) (cdC dA)) → (v = 0 → (0 ≤ x ∧ x ≤ 7) → ¬ canTellP (D3 X).1 (D3 X).2.2.2 (R3 X).length x (cdC an) (cdC dA)) → Tr Ls N 248 68 [some (mP (some 480)), some (mI (X : Int)), some (mI x), some (mI 1), some (mI (cdM (cdC an))), some (mI (cdM (cdC dA))), none] [mI v] σ2 post := by
      intro v hv hv1 hv0
      iterate 7 (refine tr_mv rfl (fun _ => rfl) ?_)
      refine tr_stat rfl rfl rfl (s_211 hx (by decide) (by decide) ?_)
      first | refine tr_ib rfl (fun g2 => ?_) (fun g2 => ?_) | refine tr_ibn rfl (fun g2 => ?_) (fun g2 => ?_)
      · rcases hv with rfl | rfl
        · repeat (refine tr_mv rfl (fun _ => rfl) ?_)
          exact bad _ _ 3 (by decide) (by decide) (fun σ' h1 h2 => K3 X σ' rfl hX g2 (hv0 rfl g2) h1 h2)
        · obtain ⟨hh, hc⟩ := hv1 rfl
          have hq := canTell_iff.mp hc
          have han : okCd (cdC an) := by
            rcases oa with k | k
            · exact absurd k hq.2.1
            · exact k
          have hit : okCd (cdC dA) := by
            rcases oi with k | k
            · have := hq.2.2.2.1.1
              rw [k] at this
              exact absurd this (by decide)
            · exact k
          have ea : cdM (cdC an) = cdC an := by unfold cdM; rw [if_neg (by omega)]
          have ei : cdM (cdC dA) = cdC dA := by unfold cdM; rw [if_neg (by omega)]
          obtain ⟨w1, w2, w3, w4, w5⟩ := okRu_tell y1 r2' hh hq han hit
          rw [ea, ei]
          iterate 3 (refine tr_mv rfl (fun _ => rfl) ?_)
          refine tr_vc (q := 480) rfl isO_480 rfl rfl rfl (s_210 (by decide) ?_)
          rw [b2, if_pos rfl]
          have o3' : only cCz σ (setF σ2 480 0 0) := o12.setF (Or.inr ⟨rfl, rfl⟩)
          have f0 : (setF σ2 480 0 0).2 480 0 = 0 := setF_same ..
          generalize setF σ2 480 0 0 = S at *
          iterate 3 (refine tr_mv rfl (fun _ => rfl) ?_)
          refine tr_vc (q := 480) rfl isO_480 rfl rfl rfl (s_295 (D := D3 X) (o := o3 X) hX (y2.el o3' (fun q i _ _ g => by have := cCz_in g; omega)) y1 (y3.el o3' (fun i g => by have := cCz_in g; omega)) hT hE (cT.of o3' (fun q i g => by have := cCz_in g; omega)) (cE.of o3' (fun q i g => by have := cCz_in g; omega)) (fun σ4 z1 z2 z3 => ?_))
          have z3i : ∀ q i, cRm X q i → q = 489 ∨ (504 ≤ q ∧ q ≤ 511) ∨ q = 522 ∨ q = 523 ∨ q = 524 ∨ (q = 480 ∧ (i = 13 ∨ i = 32 ∨ i = 34 ∨ i = 36 ∨ i = 38 ∨ i = 40 ∨ i = 53)) := fun q i g => by
            rcases g with g | g | g
            · have := cOd_in g; omega
            · omega
            · omega
          have tl4 : tlM X σ4 (D3 X) := (y2.el o3' (fun q i _ _ g => by have := cCz_in g; omega)).el z3 (fun q i _ _ g => by have := z3i q i g; omega)
          have ru4 : ruM X σ4 (rHs (R3 X)) (rAs (R3 X)) (rIs (R3 X)) := (r1'.of o3' (fun q i g => by have := cCz_in g; omega)).of z3 (fun q i g => by have := z3i q i g; omega)
          iterate 5 (refine tr_mv rfl (fun _ => rfl) ?_)
          refine tr_vc (q := 480) rfl isO_480 rfl rfl rfl (s_244 (T := X) (by omega) ⟨tl4.1, tl4.2.1⟩ y1 ru4 (by simp) (by rw [List.length_map]; exact w3) w1 w2 hh (by rw [List.length_map]; exact hq) han hit (fun σ5 x1 x2 x3 => ?_))
          iterate 2 (refine tr_mv rfl (fun _ => rfl) ?_)
          refine tr_mpi rfl (Or.inl rfl) (by decide) rfl ?_
          iterate 2 (refine tr_mv rfl (fun _ => rfl) ?_)
          refine tr_mpi rfl (Or.inl rfl) (by decide) rfl ?_
          have h502 : (setF (setF σ5 480 6 (-1)) 480 4 0).2 502 X = ((R3 X).length : Int) + 1 := by
            rw [setF_ne _ _ (by omega), setF_ne _ _ (by omega), x2.1]
            simp
          have o45 : only (fun q i => q = 480) σ5 (setF (setF σ5 480 6 (-1)) 480 4 0) := by
            have k1 : only (fun q i => q = 480) σ5 (setF σ5 480 6 (-1)) := only.setF only.rf rfl
            exact only.setF k1 rfl
          have ru6 : ruM X (setF (setF σ5 480 6 (-1)) 480 4 0) (rHs (R3 X ++ [(x, cdC an, cdC dA)])) (rAs (R3 X ++ [(x, cdC an, cdC dA)])) (rIs (R3 X ++ [(x, cdC an, cdC dA)])) := by
            rw [rHs, rAs, rIs, List.map_append, List.map_append, List.map_append]
            exact x2.of o45 (fun q i h => by omega)
          have tl6 : tlM X (setF (setF σ5 480 6 (-1)) 480 4 0) (tellD (D3 X) x (cdC an) (cdC dA)) := x1.el o45 (fun q i _ _ h => by omega)
          repeat (first | refine tr_mgr rfl (by decide) rfl ?_ | refine tr_mgi rfl (by decide) (by decide) rfl ?_ | refine tr_mv rfl (fun _ => rfl) ?_)
          refine tr_man (j := X) rfl (by omega) (by omega) rfl (fun _ => rfl) rfl rfl rfl ?_
          rw [h502]
          refine tr_ri rfl rfl (K4 X _ rfl hX hh hc tl6 ru6 ?_ ?_ ?_ ?_ ?_ ?_)
          · rw [setF_ne _ _ (by omega), setF_same]
          · rw [setF_same]
          · rw [setF_ne _ _ (by omega), setF_ne _ _ (by omega), x3.2 _ _ (by omega)]; exact z1
          · exact (z2.only x3 (fun i _ _ g => by omega)).keep (fun j _ _ => by rw [setF_ne _ _ (by omega), setF_ne _ _ (by omega)])
          · rw [setF_ne _ _ (by omega), setF_ne _ _ (by omega), x3.2 _ _ (by omega), z3.2 _ _ (fun g => by have := z3i _ _ g; omega)]; exact f0
          · exact ((((o3'.wk (fun q i h => Or.inr (Or.inr (Or.inl h)))).tr (z3.wk (fun q i h => Or.inl h))).tr (x3.wk (fun q i h => Or.inr (Or.inl h)))).setF (Or.inr (Or.inr (Or.inr ⟨rfl, Or.inr rfl⟩)))).setF (Or.inr (Or.inr (Or.inr ⟨rfl, Or.inl rfl⟩)))
      · repeat (refine tr_mv rfl (fun _ => rfl) ?_)
        exact bad _ _ 2 (by decide) (by decide) (fun σ' h1 h2 => K2 σ' g1 g2 h1 h2)
    have t67 : ((0 ≤ x ∧ x ≤ 7) → ¬ canTellP (D3 X).1 (D3 X).2.2.2 (R3 X).length x (cdC an) (cdC dA)) → Tr Ls N 248 67 [some (mP (some 480)), some (mI (X : Int)), some (mI x), some (mI 1), some (mI (cdM (cdC an))), some (mI (cdM (cdC dA))), none] [] σ2 post := by
      intro h
      iterate 1 (refine tr_mv rfl (fun _ => rfl) ?_)
      exact t68 0 (Or.inl rfl) (fun g => absurd g (by decide)) (fun _ => h)
    iterate 6 (refine tr_mv rfl (fun _ => rfl) ?_)
    refine tr_stat rfl rfl rfl (s_211 hx (by decide) (by decide) ?_)
    first | refine tr_ib rfl (fun g2 => ?_) (fun g2 => ?_) | refine tr_ibn rfl (fun g2 => ?_) (fun g2 => ?_)
    · exact t67 (fun g => absurd g g2)
    · repeat (first | refine tr_mgr rfl (by decide) rfl ?_ | refine tr_mgi rfl (by decide) (by decide) rfl ?_ | refine tr_mv rfl (fun _ => rfl) ?_)
      have hanc : σ2.2 480 6 = -1 → an = [] := fun g => by
        rcases a2.1 with k | k
        · exact k.1
        · rw [g] at k; have := k.2; omega
      have hanb : in32 (σ2.2 480 6) := by
        rcases a2.1 with k | k
        · rw [k.2]; decide
        · rw [k.2]; omega
      refine tr_cmp2 rfl (m32_of hanb) (m32_of (x := -1) ⟨by decide, by decide⟩) (fun c1 => ?_) (fun c1 => ?_)
      · refine t67 (fun _ g => ?_)
        have h9 := (canTell_iff.mp g).2.1
        rw [hanc c1] at h9
        exact h9 rfl
      · repeat (first | refine tr_mgr rfl (by decide) rfl ?_ | refine tr_mgi rfl (by decide) (by decide) rfl ?_ | refine tr_mv rfl (fun _ => rfl) ?_)
        rw [d2.1]
        refine tr_if2 rfl (m32_of (by omega)) (fun c2 => ?_) (fun c2 => ?_)
        · have c3 : (ds.length : Int) ≤ 0 := c2
          refine t67 (fun _ g => ?_)
          have h9 := (canTell_iff.mp g).2.2.2.1.1
          rw [dk4.mpr (List.length_eq_zero_iff.mp (by omega))] at h9
          exact absurd h9 (by decide)
        · iterate 5 (refine tr_mv rfl (fun _ => rfl) ?_)
          have hX3' := hX3.of o12 (fun q i g => by have := cCz_in g; omega)
          obtain ⟨u1, u2, u3⟩ := hX3' X hX
          refine tr_vc (q := 480) rfl isO_480 rfl rfl rfl (s_241 (T := X) (how := x) (an := cdC an) (it := cdC dA) (n := (R3 X).length) (by omega) ⟨u2.1, u2.2.1⟩ u1 (by rw [o12.2 _ _ (fun g => by have := cCz_in g; omega), r1'.1, List.length_map]) r2'.1 oa oi g2 ?_)
          first | refine tr_ib rfl (fun c4 => ?_) (fun c4 => ?_) | refine tr_ibn rfl (fun c4 => ?_) (fun c4 => ?_)
          · exact t67 (fun _ => c4)
          · iterate 2 (refine tr_mv rfl (fun _ => rfl) ?_)
            exact t68 1 (Or.inr rfl) (fun _ => ⟨g2, c4⟩) (fun g => absurd g (by decide))
  · rw [b2_neg g1]
    repeat (refine tr_mv rfl (fun _ => rfl) ?_)
    exact bad _ _ 1 (by decide) (by decide) (fun σ' h1 h2 => K1 σ' g1 h1 h2)
theorem only_a3 (o2 : only (cTl 3) σ σ') : only (fun q i => cTl 3 q i ∨ (q = 480 ∧ i = 0)) σ (setF σ' 480 0 3) := by
  have k1 : only (fun q i => cTl 3 q i ∨ (q = 480 ∧ i = 0)) σ σ' := o2.wk (fun q i h => Or.inl h)
  exact only.setF k1 (Or.inr ⟨rfl, rfl⟩)
abbrev cAdo (X q i : Nat) : Prop := cRm X q i ∨ cTl X q i ∨ cTl 3 q i ∨ (q = 480 ∧ i = 0)
theorem s_251 (hT : okTx tx) (hE : okEn tx en) (cT : mTx σ tx) (cE : mEn σ en) (hX3 : mX3 σ D3 o3) (hR3 : ∀ X, X < 3 → ruM X σ (rHs (R3 X)) (rAs (R3 X)) (rIs (R3 X)) ∧ okRu (D3 X) (R3 X)) (hi : in32 i) (hx : in32 x)
    (K1 : ¬ ((0 ≤ i ∧ i < 3) ∧ 0 ≤ x ∧ x < 3) → post (.inl (some (mI 0))) (setF σ 480 0 1))
    (K2 : ((0 ≤ i ∧ i < 3) ∧ 0 ≤ x ∧ x < 3) → i = x → post (.inl (some (mI 0))) (setF σ 480 0 2))
    (K3 : ∀ (X Y : Nat) (σ' : Sg), i = (X : Int) → x = (Y : Int) → X < 3 → Y < 3 → X ≠ Y → tryL (D3 X) (R3 X).length (R3 Y) = none → σ'.2 480 0 = 3 → only (fun q i => cTl 3 q i ∨ (q = 480 ∧ i = 0)) σ σ' → post (.inl (some (mI 0))) σ')
    (K4 : ∀ (X Y : Nat) (D' : TD) (σ' : Sg), i = (X : Int) → x = (Y : Int) → X < 3 → Y < 3 → X ≠ Y → tryL (D3 X) (R3 X).length (R3 Y) = some D' → tlM X σ' D' → ruM X σ' (rHs (R3 X ++ R3 Y)) (rAs (R3 X ++ R3 Y)) (rIs (R3 X ++ R3 Y)) → σ'.2 524 X = ((ordE tx en (D3 X) (o3 X) X).length : Int) → mseg σ' 523 (24 * X) (ci (ordE tx en (D3 X) (o3 X) X)) → σ'.2 480 0 = 0 → only (cAdo X) σ σ' → post (.inl (some (mI ((R3 X ++ R3 Y).length : Int)))) σ') :
    Tr Ls N 251 0 [some (mP (some 480)), some (mI i), some (mI x), none, none] [] σ post := by
  have bad : ∀ (f g c : Int) (S : Sg), c ≠ 0 → in32 c → post (.inl (some (mI 0))) (setF S 480 0 c) → Tr Ls N 251 82 [some (mP (some 480)), some (mI i), some (mI x), some (mI f), some (mI g)] [mI c, mP (some 480)] S post := by
    intro f g c S h1 h2 h3
    refine tr_vc (q := 480) rfl isO_480 rfl rfl rfl (s_210 h2 ?_)
    rw [b2, if_neg h1]
    repeat (refine tr_mv rfl (fun _ => rfl) ?_)
    exact tr_ri rfl rfl h3
  iterate 1 (refine tr_mv rfl (fun _ => rfl) ?_)
  refine tr_stat rfl rfl rfl (s_219 hi ?_)
  first | refine tr_ib rfl (fun g1 => ?_) (fun g1 => ?_) | refine tr_ibn rfl (fun g1 => ?_) (fun g1 => ?_)
  · repeat (refine tr_mv rfl (fun _ => rfl) ?_)
    exact bad _ _ 1 σ (by decide) (by decide) (K1 (fun g => g1 g.1))
  · iterate 1 (refine tr_mv rfl (fun _ => rfl) ?_)
    refine tr_stat rfl rfl rfl (s_219 hx ?_)
    first | refine tr_ib rfl (fun g2 => ?_) (fun g2 => ?_) | refine tr_ibn rfl (fun g2 => ?_) (fun g2 => ?_)
    · repeat (refine tr_mv rfl (fun _ => rfl) ?_)
      exact bad _ _ 1 σ (by decide) (by decide) (K1 (fun g => g2 g.2))
    · iterate 7 (refine tr_mv rfl (fun _ => rfl) ?_)
      refine tr_cmp2 rfl (m32_of (by omega)) (m32_of (by omega)) (fun g3 => ?_) (fun g3 => ?_)
      · have g4 : i = x := g3
        iterate 9 (refine tr_mv rfl (fun _ => rfl) ?_)
        refine tr_cmp2 rfl (m32_of (by omega)) (m32_of (by omega)) (fun g5 => ?_) (fun g5 => ?_)
        · exact absurd g4 g5
        · iterate 2 (refine tr_mv rfl (fun _ => rfl) ?_)
          exact bad _ _ 2 σ (by decide) (by decide) (K2 ⟨g1, g2⟩ g4)
      · have g4 : ¬ i = x := g3
        obtain ⟨X, rfl⟩ : ∃ X : Nat, i = (X : Int) := ⟨i.toNat, by omega⟩
        obtain ⟨Y, rfl⟩ : ∃ Y : Nat, x = (Y : Int) := ⟨x.toNat, by omega⟩
        have hX : X < 3 := by omega
        have hY : Y < 3 := by omega
        have hXY : X ≠ Y := by omega
        obtain ⟨y1, y2, y3⟩ := hX3 X hX
        obtain ⟨r1, r2⟩ := hR3 X hX
        obtain ⟨p1, p2⟩ := hR3 Y hY
        have hsl := y1.2.2.2.2.2.1.1
        have m1 : (rHs (R3 Y)).length ≤ 12 := by rw [List.length_map]; exact p2.1
        have m2 : (rAs (R3 Y)).length ≤ 12 := by rw [List.length_map]; exact p2.1
        have m3 : (rIs (R3 Y)).length ≤ 12 := by rw [List.length_map]; exact p2.1
        iterate 8 (refine tr_mv rfl (fun _ => rfl) ?_)
        refine tr_vc (q := 480) rfl isO_480 rfl rfl rfl (s_249 (T := 3) (F := X) (by decide) (by omega) (by omega) y2.1 y1.1.symm y1.2.1 y2.2.1 hsl.symm y1.2.2.1 r1 (by simp) (by rw [List.length_map]; exact r2.1) (fun σ1 a1 a2 a3 a4 => ?_))
        iterate 2 (refine tr_mv rfl (fun _ => rfl) ?_)
        refine tr_vc (q := 480) rfl isO_480 rfl rfl rfl (s_250 (D := D3 X) (R := R3 X) (RF := R3 Y) (F := Y) ⟨a1, a2⟩ y1 a3 r2 hY ⟨by rw [a4.2 _ _ (by omega)]; exact p1.1, p1.2.1.only a4 (fun i _ _ => by omega), p1.2.2.1.only a4 (fun i _ _ => by omega), p1.2.2.2.only a4 (fun i _ _ => by omega)⟩ p2.1 p2.2.2.2 (fun σ2 b1 b2' => ?_) (fun σ2 D' b1 b2' b3 b4 b5 b6 => ?_))
        · have o2 : only (cTl 3) σ σ2 := (a4.wk (fun q i h => by omega)).tr b2'
          iterate 6 (refine tr_mv rfl (fun _ => rfl) ?_)
          refine tr_cmp2 rfl (m32_of (by omega)) (m32_of (by omega)) (fun g5 => ?_) (fun g5 => ?_)
          · iterate 4 (refine tr_mv rfl (fun _ => rfl) ?_)
            exact bad _ _ 3 σ2 (by decide) (by decide) (K3 X Y _ rfl rfl hX hY hXY b1 (setF_same ..) (only_a3 o2))
          · exact absurd (show ¬ (X : Int) = (Y : Int) from g4) g5
        · have o2 : only (cTl 3) σ σ2 := (a4.wk (fun q i h => by omega)).tr b6
          iterate 6 (refine tr_mv rfl (fun _ => rfl) ?_)
          refine tr_cmp2 rfl (m32_of (by omega)) (m32_of (by omega)) (fun g5 => ?_) (fun g5 => ?_)
          · iterate 3 (refine tr_mv rfl (fun _ => rfl) ?_)
            refine tr_vc (q := 480) rfl isO_480 rfl rfl rfl (s_210 (by decide) ?_)
            rw [b2, if_pos rfl]
            have o3' : only (fun q i => cTl 3 q i ∨ (q = 480 ∧ i = 0)) σ (setF σ2 480 0 0) := (o2.wk (fun q i h => Or.inl h)).setF (Or.inr ⟨rfl, rfl⟩)
            have o30 : only (fun q i => q = 480 ∧ i = 0) σ2 (setF σ2 480 0 0) := mset0 σ2 0
            have f0 : (setF σ2 480 0 0).2 480 0 = 0 := setF_same ..
            generalize setF σ2 480 0 0 = S at *
            have b4S : lsM 3 S D'.1 D'.2.1 ∧ svM 3 S D'.2.2.1 D'.2.2.2 := ⟨b4.1.el o30 (fun q i _ _ => by omega), b4.2.el o30 (fun q i _ _ => by omega)⟩
            have b5S := b5.of o30 (fun q i h => by omega)
            have tlS : tlM X S (D3 X) := ⟨⟨(o3'.2 _ _ (by omega)).trans y2.1.1, y2.1.2.1.only o3' (fun i _ h => by have := y1.2.1; omega), y2.1.2.2.only o3' (fun i _ h => by have := y1.2.1; have := y1.1; omega)⟩, ⟨(o3'.2 _ _ (by omega)).trans y2.2.1.1, y2.2.1.2.1.only o3' (fun i _ h => by have := y1.2.2.1; omega), y2.2.1.2.2.only o3' (fun i _ h => by have := y1.2.2.1; omega)⟩, y2.2.2.1.only o3' (fun i _ h => by rw [w1_len] at h; have := y1.2.1; have := y1.1; omega), y2.2.2.2.1.only o3' (fun i _ h => by rw [w2_len] at h; have := y1.2.1; have := y1.1; omega), y2.2.2.2.2.only o3' (fun i _ h => by rw [w3_len] at h; have := y1.2.1; have := y1.1; omega)⟩
            iterate 3 (refine tr_mv rfl (fun _ => rfl) ?_)
            refine tr_vc (q := 480) rfl isO_480 rfl rfl rfl (s_295 (D := D3 X) (o := o3 X) hX tlS y1 (y3.el o3' (fun i g => by omega)) hT hE (cT.of o3' (fun q i g => by omega)) (cE.of o3' (fun q i g => by omega)) (fun σ4 z1 z2 z3 => ?_))
            have z3i : ∀ q i, cRm X q i → q = 489 ∨ (504 ≤ q ∧ q ≤ 511) ∨ q = 522 ∨ q = 523 ∨ q = 524 ∨ (q = 480 ∧ (i = 13 ∨ i = 32 ∨ i = 34 ∨ i = 36 ∨ i = 38 ∨ i = 40 ∨ i = 53)) := fun q i g => by
              rcases g with g | g | g
              · have := cOd_in g; omega
              · omega
              · omega
            have hl1 := b2'.1
            have hl2 := b2'.2.1
            have hl3 := b2'.2.2.2.2.2.1.1
            have hl4 := b2'.2.2.1
            iterate 3 (refine tr_mv rfl (fun _ => rfl) ?_)
            refine tr_vc (q := 480) rfl isO_480 rfl rfl rfl (s_249 (T := X) (F := 3) (by omega) (by decide) (by omega) (b4S.1.el z3 (fun q i _ _ g => by have := z3i q i g; omega)) hl1.symm hl2 (b4S.2.el z3 (fun q i _ _ g => by have := z3i q i g; omega)) hl3.symm hl4 (b5S.of z3 (fun q i g => by have := z3i q i g; omega)) (by simp) (by rw [List.length_map]; exact b3.1) (fun σ5 x1 x2 x3 x4 => ?_))
            iterate 2 (refine tr_mv rfl (fun _ => rfl) ?_)
            refine tr_vc (q := 480) rfl isO_480 rfl rfl rfl (s_234 (T := X) (lvs := D'.2.1) (by omega) (by rw [x1.1, hl1]) x1.2.2 (by omega) b2'.2.2.2.2.2.2.1 b2'.2.2.2.2.2.2.2.1 (fun σ6 w1 w2 => ?_))
            have ru6 := x3.of w2 (fun q i g => by omega)
            repeat (first | refine tr_mgr rfl (by decide) rfl ?_ | refine tr_mgi rfl (by decide) (by decide) rfl ?_ | refine tr_mv rfl (fun _ => rfl) ?_)
            refine tr_man (j := X) rfl (by omega) (by omega) rfl (fun _ => rfl) rfl rfl rfl ?_
            rw [ru6.1, List.length_map]
            refine tr_ri rfl rfl (K4 X Y D' σ6 rfl rfl hX hY hXY b1 ⟨⟨(w2.2 _ _ (by omega)).trans x1.1, x1.2.1.only w2 (fun i _ _ => by omega), x1.2.2.only w2 (fun i _ _ => by omega)⟩, x2.el w2 (fun q i _ _ => by omega), w1⟩ ru6 ?_ ?_ ?_ ?_)
            · rw [w2.2 _ _ (by omega), x4.2 _ _ (by omega)]; exact z1
            · exact (z2.only x4 (fun i _ _ => by omega)).only w2 (fun i _ _ => by omega)
            · rw [w2.2 _ _ (by omega), x4.2 _ _ (by omega), z3.2 _ _ (fun g => by have := z3i _ _ g; omega)]; exact f0
            · exact (o3'.wk (fun q i h => by rcases h with h | h; exact Or.inr (Or.inr (Or.inl h)); exact Or.inr (Or.inr (Or.inr h)))).tr ((z3.wk (fun q i h => Or.inl h)).tr ((x4.wk (fun q i h => Or.inr (Or.inl (by rcases h with h | h | h; exact Or.inl h; exact Or.inr (Or.inl h); exact Or.inr (Or.inr (Or.inr h)))))).tr (w2.wk (fun q i h => Or.inr (Or.inl (Or.inr (Or.inr (Or.inl h))))))))
          · exact absurd (show ¬ (X : Int) = (Y : Int) from g4) g5
theorem s_252 (hT : okTx tx) (hE : okEn tx en) (cT : mTx σ tx) (cE : mEn σ en) (hX3 : mX3 σ D3 o3) (hi : in32 i) (hx : in32 x) (hy : y = 0 ∨ y = 1)
    (K1 : ¬ ((0 ≤ i ∧ i < 3) ∧ 0 ≤ x ∧ x < 3) → post (.inl (some (mI 0))) (setF σ 480 0 1))
    (K2 : ∀ (X j : Nat) (σ' : Sg), i = (X : Int) → x = (j : Int) → X < 3 → j < 3 → opM X σ' (oU (o3 X) j y) → σ'.2 524 X = ((ordE tx en (D3 X) (o3 X) X).length : Int) → mseg σ' 523 (24 * X) (ci (ordE tx en (D3 X) (o3 X) X)) → σ'.2 480 0 = 0 → only (fun q l => cRm X q l ∨ (q = 503 ∧ l = 3 * X + j) ∨ (q = 480 ∧ l = 0)) σ σ' → post (.inl (some (mI (b2 (o3 X j = 1))))) σ') :
    Tr Ls N 252 0 [some (mP (some 480)), some (mI i), some (mI x), some (mI y), none] [] σ post := by
  have bad : ¬ ((0 ≤ i ∧ i < 3) ∧ 0 ≤ x ∧ x < 3) → Tr Ls N 252 21 [some (mP (some 480)), some (mI i), some (mI x), some (mI y), none] [mP (some 480)] σ post := by
    intro h
    iterate 1 (refine tr_mv rfl (fun _ => rfl) ?_)
    refine tr_vc (q := 480) rfl isO_480 rfl rfl rfl (s_210 (by decide) ?_)
    rw [b2, if_neg (by decide)]
    repeat (refine tr_mv rfl (fun _ => rfl) ?_)
    exact tr_reti rfl (Or.inr (Or.inl rfl)) (K1 h)
  iterate 2 (refine tr_mv rfl (fun _ => rfl) ?_)
  refine tr_stat rfl rfl rfl (s_219 hi ?_)
  first | refine tr_ib rfl (fun g1 => ?_) (fun g1 => ?_) | refine tr_ibn rfl (fun g1 => ?_) (fun g1 => ?_)
  · exact bad (fun g => g1 g.1)
  · iterate 3 (refine tr_mv rfl (fun _ => rfl) ?_)
    refine tr_stat rfl rfl rfl (s_211 hx (by decide) (by decide) ?_)
    first | refine tr_ib rfl (fun g2 => ?_) (fun g2 => ?_) | refine tr_ibn rfl (fun g2 => ?_) (fun g2 => ?_)
    · exact bad (fun g => g2 (by omega))
    · obtain ⟨X, rfl⟩ : ∃ X : Nat, i = (X : Int) := ⟨i.toNat, by omega⟩
      obtain ⟨j, rfl⟩ : ∃ j : Nat, x = (j : Int) := ⟨x.toNat, by omega⟩
      have hX : X < 3 := by omega
      have hj : j < 3 := by omega
      iterate 2 (refine tr_mv rfl (fun _ => rfl) ?_)
      refine tr_vc (q := 480) rfl isO_480 rfl rfl rfl (s_210 (by decide) ?_)
      rw [b2, if_pos rfl]
      have o0 := mset0 σ 0
      have f0 : (setF σ 480 0 0).2 480 0 = 0 := setF_same ..
      generalize setF σ 480 0 0 = S at *
      obtain ⟨y1, y2, y3⟩ := hX3.of o0 (fun q i h => by omega) X hX
      iterate 3 (refine tr_mv rfl (fun _ => rfl) ?_)
      refine tr_vc (q := 480) rfl isO_480 rfl rfl rfl (s_295 (D := D3 X) (o := o3 X) hX y2 y1 y3 hT hE (cT.of o0 (fun q i g => by omega)) (cE.of o0 (fun q i g => by omega)) (fun σ4 z1 z2 z3 => ?_))
      have z3i : ∀ q i, cRm X q i → q = 489 ∨ (504 ≤ q ∧ q ≤ 511) ∨ q = 522 ∨ q = 523 ∨ q = 524 ∨ (q = 480 ∧ (i = 13 ∨ i = 32 ∨ i = 34 ∨ i = 36 ∨ i = 38 ∨ i = 40 ∨ i = 53)) := fun q i g => by
        rcases g with g | g | g
        · have := cOd_in g; omega
        · omega
        · omega
      have op4 := y3.el z3 (fun i g => by have := z3i _ _ g; omega)
      have hv := op4 j hj
      have fin : Tr Ls N 252 58 [some (mP (some 480)), some (mI (X : Int)), some (mI (j : Int)), some (mI y), some (mI (o3 X j))] [] (setF σ4 503 (3 * X + j) y) post := by
        iterate 1 (refine tr_mv rfl (fun _ => rfl) ?_)
        refine tr_reti rfl (Or.inr hv.2) ?_
        have k := K2 X j (setF σ4 503 (3 * X + j) y) rfl rfl hX hj (fun l hl => ?_) (by rw [setF_ne _ _ (by omega)]; exact z1) (z2.keep (fun i _ _ => setF_ne _ _ (by omega))) (by rw [setF_ne _ _ (by omega), z3.2 _ _ (fun g => by have := z3i _ _ g; omega)]; exact f0) (((o0.wk (fun q l h => Or.inr (Or.inr h))).tr (z3.wk (fun q l h => Or.inl h))).setF (Or.inr (Or.inl ⟨rfl, rfl⟩)))
        · rcases hv.2 with g | g
          · rw [b2_neg (show ¬ o3 X j = 1 by omega)] at k
            rw [g]
            exact k
          · rw [b2_pos g] at k
            rw [g]
            exact k
        · unfold oU
          by_cases g : l = j
          · rw [if_pos g, g, setF_same]
            exact ⟨rfl, hy⟩
          · rw [if_neg g, setF_ne _ _ (by omega)]
            exact op4 l hl
      repeat (first | refine tr_mgr rfl (by decide) rfl ?_ | refine tr_mgi rfl (by decide) (by decide) rfl ?_ | refine tr_mv rfl (fun _ => rfl) ?_)
      refine tr_man (j := 3 * X + j) rfl (by omega) (by omega) rfl (fun _ => rfl) rfl rfl rfl ?_
      rw [hv.1]
      rcases hy with rfl | rfl
      · repeat (first | refine tr_mgr rfl (by decide) rfl ?_ | refine tr_mgi rfl (by decide) (by decide) rfl ?_ | refine tr_mv rfl (fun _ => rfl) ?_)
        refine tr_msn (j := 3 * X + j) rfl (by omega) (by omega) rfl (fun _ => rfl) rfl rfl rfl ?_
        exact fin
      · repeat (first | refine tr_mgr rfl (by decide) rfl ?_ | refine tr_mgi rfl (by decide) (by decide) rfl ?_ | refine tr_mv rfl (fun _ => rfl) ?_)
        refine tr_msn (j := 3 * X + j) rfl (by omega) (by omega) rfl (fun _ => rfl) rfl rfl rfl ?_
        exact fin
theorem s_253 (hR3 : ∀ X, X < 3 → ruM X σ (rHs (R3 X)) (rAs (R3 X)) (rIs (R3 X)) ∧ okRu (D3 X) (R3 X)) (hi : in32 i)
    (K1 : ¬ (0 ≤ i ∧ i < 3) → post (.inl (some (mI 0))) (setF σ 480 0 1))
    (K2 : ∀ X : Nat, i = (X : Int) → X < 3 → post (.inl (some (mI ((R3 X).length : Int)))) (setF σ 480 0 0)) : Tr Ls N 253 0 [some (mP (some 480)), some (mI i)] [] σ post := by
  iterate 2 (refine tr_mv rfl (fun _ => rfl) ?_)
  refine tr_stat rfl rfl rfl (s_219 hi ?_)
  first | refine tr_ib rfl (fun g1 => ?_) (fun g1 => ?_) | refine tr_ibn rfl (fun g1 => ?_) (fun g1 => ?_)
  · iterate 1 (refine tr_mv rfl (fun _ => rfl) ?_)
    refine tr_vc (q := 480) rfl isO_480 rfl rfl rfl (s_210 (by decide) ?_)
    rw [b2, if_neg (by decide)]
    repeat (refine tr_mv rfl (fun _ => rfl) ?_)
    exact tr_ri rfl rfl (K1 g1)
  · obtain ⟨X, rfl⟩ : ∃ X : Nat, i = (X : Int) := ⟨i.toNat, by omega⟩
    iterate 2 (refine tr_mv rfl (fun _ => rfl) ?_)
    refine tr_vc (q := 480) rfl isO_480 rfl rfl rfl (s_210 (by decide) ?_)
    rw [b2, if_pos rfl]
    repeat (first | refine tr_mgr rfl (by decide) rfl ?_ | refine tr_mgi rfl (by decide) (by decide) rfl ?_ | refine tr_mv rfl (fun _ => rfl) ?_)
    refine tr_man (j := X) rfl (by omega) (by omega) rfl (fun _ => rfl) rfl rfl rfl ?_
    rw [setF_ne _ _ (by omega), (hR3 X (by omega)).1.1, List.length_map]
    iterate 1 (refine tr_mv rfl (fun _ => rfl) ?_)
    exact tr_ri rfl rfl (K2 X rfl (by omega))
theorem s_254 (hX3 : mX3 σ D3 o3) (hi : in32 i) (hx : in32 x)
    (K1 : ¬ (0 ≤ i ∧ i < 3) → post (.inl (some (mI 0))) (setF σ 480 0 1))
    (K2 : ∀ X : Nat, i = (X : Int) → X < 3 → ¬ (0 ≤ x ∧ x < ((D3 X).1.length : Int)) → post (.inl (some (mI 0))) (setF σ 480 0 1))
    (K3 : ∀ X j : Nat, i = (X : Int) → X < 3 → x = (j : Int) → j < (D3 X).1.length → post (.inl (some (mI (1000000 * (D3 X).2.1.getD j 0 + (D3 X).1.getD j 0)))) (setF σ 480 0 0)) : Tr Ls N 254 0 [some (mP (some 480)), some (mI i), some (mI x), none] [] σ post := by
  have bad : post (.inl (some (mI 0))) (setF σ 480 0 1) → Tr Ls N 254 27 [some (mP (some 480)), some (mI i), some (mI x), none] [] σ post := by
    intro h
    repeat (refine tr_mv rfl (fun _ => rfl) ?_)
    refine tr_vc (q := 480) rfl isO_480 rfl rfl rfl (s_210 (by decide) ?_)
    rw [b2, if_neg (by decide)]
    repeat (refine tr_mv rfl (fun _ => rfl) ?_)
    exact tr_ri rfl rfl h
  iterate 1 (refine tr_mv rfl (fun _ => rfl) ?_)
  refine tr_stat rfl rfl rfl (s_219 hi ?_)
  first | refine tr_ib rfl (fun g1 => ?_) (fun g1 => ?_) | refine tr_ibn rfl (fun g1 => ?_) (fun g1 => ?_)
  · exact bad (K1 g1)
  · obtain ⟨X, rfl⟩ : ∃ X : Nat, i = (X : Int) := ⟨i.toNat, by omega⟩
    have hX : X < 3 := by omega
    obtain ⟨y1, y2, y3⟩ := hX3 X hX
    have hl := y1.1
    have hl2 := y1.2.1
    repeat (first | refine tr_mgr rfl (by decide) rfl ?_ | refine tr_mgi rfl (by decide) (by decide) rfl ?_ | refine tr_mv rfl (fun _ => rfl) ?_)
    refine tr_man (j := X) rfl (by omega) (by omega) rfl (fun _ => rfl) rfl rfl rfl ?_
    rw [y2.1.1]
    iterate 2 (refine tr_mv rfl (fun _ => rfl) ?_)
    refine tr_stat rfl rfl rfl (s_211 hx (by decide) (by omega) ?_)
    first | refine tr_ib rfl (fun g2 => ?_) (fun g2 => ?_) | refine tr_ibn rfl (fun g2 => ?_) (fun g2 => ?_)
    · exact bad (K2 X rfl hX (fun g => g2 (by omega)))
    · obtain ⟨j, rfl⟩ : ∃ j : Nat, x = (j : Int) := ⟨x.toNat, by omega⟩
      have hj : j < (D3 X).1.length := by omega
      repeat (refine tr_mv rfl (fun _ => rfl) ?_)
      refine tr_vc (q := 480) rfl isO_480 rfl rfl rfl (s_210 (by decide) ?_)
      rw [b2, if_pos rfl]
      repeat (first | refine tr_mgr rfl (by decide) rfl ?_ | refine tr_mgi rfl (by decide) (by decide) rfl ?_ | refine tr_mv rfl (fun _ => rfl) ?_)
      refine tr_man (j := 48 * X + j) rfl (by omega) (by omega) rfl (fun _ => rfl) rfl rfl rfl ?_
      rw [setF_ne _ _ (by omega), y2.1.2.2.get (by omega)]
      repeat (first | refine tr_mgr rfl (by decide) rfl ?_ | refine tr_mgi rfl (by decide) (by decide) rfl ?_ | refine tr_mv rfl (fun _ => rfl) ?_)
      refine tr_man (j := 48 * X + j) rfl (by omega) (by omega) rfl (fun _ => rfl) rfl rfl rfl ?_
      rw [setF_ne _ _ (by omega), y2.1.2.1.get (by omega)]
      iterate 2 (refine tr_mv rfl (fun _ => rfl) ?_)
      exact tr_ri rfl rfl (K3 X j rfl hX rfl hj)
end MRULE
