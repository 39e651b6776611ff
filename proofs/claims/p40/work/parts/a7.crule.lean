/-! The class: rules, tailorings adopted, options. -/
def cdC (l : List Int) : Int := if l.length = 0 ∨ 3 < l.length then -1 else cdL l
theorem cdC_ok {l : List Int} (h : okA40 l) : okCo1 (cdC l) := by
  unfold cdC
  split
  · exact Or.inl rfl
  · rename_i g
    exact Or.inr (cdL_pos l (fun e => g (Or.inl (by rw [e]; rfl))) (by omega) h)
def cDr (σ : Sg) (ds dA : List Int) : Prop := σ.1 6 = ds ∧ (∀ s, in32 (bOf σ s)) ∧ (∀ s, in32 (kOf σ s)) ∧ sorted1 (ds.flatMap (apart1 (bOf σ) (kOf σ))) = dA
def okDr (ds dA : List Int) : Prop := ds.length ≤ 10 ∧ dA.length ≤ 30 ∧ okA40 dA ∧ (dA = [] ↔ ds = [])
def oU (o : Nat → Int) (j : Nat) (y : Int) : Nat → Int := fun i => if i = j then y else o i
theorem r_6 : isRow 6 10 := ⟨by decide, by decide +kernel, by decide +kernel⟩
theorem r_8 : isRow 8 30 := ⟨by decide, by decide +kernel, by decide +kernel⟩
section CRULE
variable {Ls N k pc n n' nn b c t u a q d p X T F kd w : Nat} {L L0 : mLs} {st r as : List mV} {h h' : mH} {σ σ' σ'' : Sg} {post : tP} {x y z x' y' i i' s v m how it : Int} {xs ys its lvs sv sg hs is ans an ds dA : List Int} {e : mE} {C : Nat → Nat → Prop} {D : TD} {R RF : RuT} {Rr : Nat → Prop} {tx : List (List Int)} {en : List EnT} {D3 : Nat → TD} {o3 : Nat → Nat → Int} {R3 : Nat → RuT}
theorem cRl.of (h : cRl t σ R) (hc : chg Rr C σ σ') (hR : ∀ a, Rr a → ¬ rT t a) : cRl t σ' R :=
  ⟨(hc.1 _ (fun g => hR _ g (by omega))).trans h.1, (hc.1 _ (fun g => hR _ g (by omega))).trans h.2.1, (hc.1 _ (fun g => hR _ g (by omega))).trans h.2.2⟩
/-- an index remembers its order -/
abbrev reR (X a : Nat) : Prop := orR X a ∨ a = 295 + 29 * X + 5
theorem s_rem (hX : X < 3) (hT : okTx tx) (hE : okEn tx en) (cT : cTx σ tx) (cE : cEn σ en) (hX3 : cX3 σ tx en D3 o3) {k pc : Nat} {L : mLs} {rest : List mV} {j1 j2 : Nat}
    (he1 : mPg.1 k pc = some (.invokevirtual j1, 3, 188, 1, 10)) (he2 : mPg.1 k (pc + 3) = some (.invokevirtual j2, 3, 85, 1, 6)) (hst : Nat.ble ((mP (some (295 + 29 * X)) :: rest).map mcat).sum 8 = true) (hst2 : Nat.ble (rest.map mcat).sum 8 = true)
    (K : ∀ σ', σ'.1 ((295 + 29 * X) + 5) = ci (ordE tx en (D3 X) (o3 X) X) → σ'.2 (295 + 29 * X) 3 = 0 → chg (reR X) (orC X) σ σ' → Tr Ls N k (pc + 3 + 3) L rest σ' post) :
    Tr Ls N k pc L (mI (X : Int) :: mP (some 2) :: mP (some (295 + 29 * X)) :: rest) σ post := by
  obtain ⟨y1, y2, y3, y4⟩ := hX3 X hX
  have hol := ordE_len (D := D3 X) (o := o3 X) hE X
  refine tr_vc (q := 2) (as := [mP (some 2), mI (X : Int)]) (r := mP (some (295 + 29 * X)) :: rest) he1 ⟨by decide, by decide +kernel⟩ rfl ?_ rfl (s_188 hX hT hE cT cE y1 y2 y3 y4 (fun σ1 z1 z2 z3 z4 => ?_))
  · unfold mcall
    rw [if_pos ⟨by simp, by rfl, Nat.le_of_ble_eq_true hst⟩]
    rfl
  · refine tr_vc (q := (295 + 29 * X)) (as := [mP (some (295 + 29 * X)), mP (some ((295 + 29 * X) + 1))]) (r := rest) he2 (X_O hX) rfl ?_ rfl (s_85 hX (X_r0 hX) (by omega) (by rw [z2, List.length_map]; omega) ?_)
    · unfold mcall
      rw [if_pos ⟨by simp, by rfl, Nat.le_of_ble_eq_true hst2⟩]
      rfl
    · have hz : chg (reR X) (orC X) σ σ1 := z4.wk (fun a h => Or.inl h) (fun q i h => h)
      refine K _ ?_ ?_ ((hz.setR (Or.inr rfl)).setF (Or.inr ⟨rfl, rfl⟩))
      · show (setR σ1 ((295 + 29 * X) + 5) (σ1.1 ((295 + 29 * X) + 1))).1 ((295 + 29 * X) + 5) = _
        rw [setR_same, z2]
      · exact setF_same ..
theorem s_133 (hT : okTx tx) (hE : okEn tx en) (cT : cTx σ tx) (cE : cEn σ en) (hX3 : cX3 σ tx en D3 o3) (hR3 : ∀ X, X < 3 → cRl (273 + 29 * X) σ (R3 X) ∧ okRu (D3 X) (R3 X)) (hd : cDr σ ds dA) (hd2 : okDr ds dA) (ha : σ.1 8 = an) (ha2 : an.length ≤ 30) (ha40 : okA40 an) (hi : in32 i) (hx : in32 x)
    (K1 : ¬ (0 ≤ i ∧ i < 3) → post (.inr 0) σ)
    (K2 : (0 ≤ i ∧ i < 3) → ¬ (0 ≤ x ∧ x ≤ 7) → post (.inr 1) σ)
    (K3 : ∀ (X : Nat) (σ' : Sg), i = (X : Int) → X < 3 → (0 ≤ x ∧ x ≤ 7) → ¬ canTellP (D3 X).1 (D3 X).2.2.2 (R3 X).length x (cdC an) (cdC dA) → chg (fun r => r = 142) noC σ σ' → post (.inr 2) σ')
    (K4 : ∀ (X : Nat) (σ' : Sg), i = (X : Int) → X < 3 → (0 ≤ x ∧ x ≤ 7) → canTellP (D3 X).1 (D3 X).2.2.2 (R3 X).length x (cdC an) (cdC dA) → tlC (273 + 29 * X) σ' (tellD (D3 X) x (cdC an) (cdC dA)) → cRl (273 + 29 * X) σ' (R3 X ++ [(x, cdC an, cdC dA)]) → σ'.1 6 = [] → σ'.1 8 = [] → σ'.1 ((295 + 29 * X) + 5) = ci (ordE tx en (D3 X) (o3 X) X) → σ'.2 (295 + 29 * X) 3 = 0 → chg (fun r => r = 142 ∨ reR X r ∨ rT (273 + 29 * X) r ∨ r = 6 ∨ r = 8) (orC X) σ σ' → post (.inl (some (mI ((R3 X).length + 1 : Int)))) σ') :
    Tr Ls (N + 1) 133 0 [some (mP (some 2)), some (mI i), some (mI x), none, none, none] [] σ post := by
  have hT30 := hT.1
  have hE24 := hE.1
  obtain ⟨dd1, dd2, dd3, dd4⟩ := hd
  obtain ⟨dk1, dk2, dk3, dk4⟩ := hd2
  have oa := cdC_ok ha40
  have oi := cdC_ok dk3
  iterate 1 (refine tr_mv rfl (fun _ => rfl) ?_)
  refine tr_stat rfl rfl rfl (s_174 hi ?_)
  first | refine tr_ib rfl (fun g1 => ?_) (fun g1 => ?_) | refine tr_ibn rfl (fun g1 => ?_) (fun g1 => ?_)
  · iterate 1 (refine tr_mv rfl (fun _ => rfl) ?_)
    have t27 : ¬ (0 ≤ x ∧ x ≤ 7) → Tr Ls (N + 1) 133 27 [some (mP (some 2)), some (mI i), some (mI x), none, none, none] [] σ post := fun g => tr_throw rfl (K2 g1 g)
    refine tr_if2 rfl (m32_of (by omega)) (fun g2 => ?_) (fun g2 => ?_)
    · have g3 : x < 0 := g2
      exact t27 (by omega)
    · have g3 : ¬ x < 0 := g2
      iterate 2 (refine tr_mv rfl (fun _ => rfl) ?_)
      refine tr_cmp2 rfl (m32_of (by omega)) (m32_of (by omega)) (fun g4 => ?_) (fun g4 => ?_)
      · have g5 : x ≤ 7 := g4
        have hh : 0 ≤ x ∧ x ≤ 7 := by omega
        obtain ⟨X, rfl⟩ : ∃ X : Nat, i = (X : Int) := ⟨i.toNat, by omega⟩
        have hX : X < 3 := by omega
        obtain ⟨y1, y2, y3, y4⟩ := hX3 X hX
        obtain ⟨r1, r2⟩ := hR3 X hX
        iterate 1 (refine tr_mv rfl (fun _ => rfl) ?_)
        refine tr_gr rfl ⟨by decide, by decide +kernel⟩ (by decide) rfl ?_
        iterate 1 (refine tr_mv rfl (fun _ => rfl) ?_)
        refine tr_aan (d := X) (w := (273 + 29 * X)) (nn := 3) rfl hX (by decide) rfl (by decide +kernel) (by decide) (F_3 X hX).1 ?_
        iterate 2 (refine tr_mv rfl (fun _ => rfl) ?_)
        refine tr_gr rfl ⟨by decide, by decide +kernel⟩ (by decide) rfl ?_
        iterate 1 (refine tr_mv rfl (fun _ => rfl) ?_)
        refine tr_gr rfl ⟨by decide, by decide +kernel⟩ (by decide) rfl ?_
        iterate 1 (refine tr_mv rfl (fun _ => rfl) ?_)
        refine tr_gr rfl ⟨by decide, by decide +kernel⟩ (by decide) rfl ?_
        refine tr_vc (q := 3) rfl ⟨by decide, by decide +kernel⟩ rfl rfl rfl (s_20 r_6 r_142 (by decide) dd2 dd3 (by rw [dd1]; omega) ?_)
        rw [dd1, dd4]
        have o1 : chg (fun r => r = 142) noC σ (setR σ 142 dA) := chg.rf.setR rfl
        have q142 : (setR σ 142 dA).1 142 = dA := setR_same ..
        generalize setR σ 142 dA = S at *
        have q8 : S.1 8 = an := (o1.1 _ (by decide)).trans ha
        have tl1 := y2.of o1 (fun r h => by omega)
        have rl1 := r1.of o1 (fun r h => by omega)
        iterate 1 (refine tr_mv rfl (fun _ => rfl) ?_)
        refine tr_gr rfl ⟨by decide, by decide +kernel⟩ (by decide) rfl ?_
        iterate 2 (refine tr_mv rfl (fun _ => rfl) ?_)
        refine tr_gr rfl ⟨by decide, by decide +kernel⟩ (by decide) rfl ?_
        refine tr_size r_8 rfl rfl ?_
        rw [q8]
        refine tr_stat rfl rfl rfl (s_184 r_8 (by decide) (by omega) ?_)
        rw [q8, show (if (an.length : Int) ≤ 0 ∨ 3 < (an.length : Int) - 0 ∨ (an.length : Int) < (an.length : Int) then (-1 : Int) else cdL ((an.take ((an.length : Int)).toNat).drop (0 : Int).toNat)) = cdC an by
          unfold cdC
          by_cases g : an.length = 0 ∨ 3 < an.length
          · rw [if_pos g, if_pos (by omega)]
          · rw [if_neg g, if_neg (by omega), Int.toNat_natCast, List.take_length]
            rfl]
        iterate 2 (refine tr_mv rfl (fun _ => rfl) ?_)
        refine tr_gr rfl ⟨by decide, by decide +kernel⟩ (by decide) rfl ?_
        iterate 2 (refine tr_mv rfl (fun _ => rfl) ?_)
        refine tr_gr rfl ⟨by decide, by decide +kernel⟩ (by decide) rfl ?_
        refine tr_size r_142 rfl rfl ?_
        rw [q142]
        refine tr_stat rfl rfl rfl (s_184 r_142 (by decide) (by omega) ?_)
        rw [q142, show (if (dA.length : Int) ≤ 0 ∨ 3 < (dA.length : Int) - 0 ∨ (dA.length : Int) < (dA.length : Int) then (-1 : Int) else cdL ((dA.take ((dA.length : Int)).toNat).drop (0 : Int).toNat)) = cdC dA by
          unfold cdC
          by_cases g : dA.length = 0 ∨ 3 < dA.length
          · rw [if_pos g, if_pos (by omega)]
          · rw [if_neg g, if_neg (by omega), Int.toNat_natCast, List.take_length]
            rfl]
        iterate 5 (refine tr_mv rfl (fun _ => rfl) ?_)
        refine tr_vc (q := (273 + 29 * X)) rfl (T_O (t_Tl hX)) rfl rfl rfl (s_116 (t_Tl hX) (by omega) (by omega) (by omega) (by rw [tl1.2.2.2.2.2.1, tl1.2.2.2.2.2.2]; exact y1.2.2.2.2.2.1.1) (by rw [tl1.2.2.2.2.2.2]; exact y1.2.2.2.2.2.1.2) ?_)
        rw [tl1.1, tl1.2.2.2.2.2.2, rl1.1, List.length_map]
        first | refine tr_ib rfl (fun g6 => ?_) (fun g6 => ?_) | refine tr_ibn rfl (fun g6 => ?_) (fun g6 => ?_)
        · have hq := canTell_iff.mp g6
          have han : okCd (cdC an) := by
            rcases oa with k | k
            · exact absurd k hq.2.1
            · exact k
          have hit : okCd (cdC dA) := by
            rcases oi with k | k
            · have := hq.2.2.2.1.1
              rw [k] at this
              exact absurd this (by decide)
            · exact k
          iterate 1 (refine tr_mv rfl (fun _ => rfl) ?_)
          refine tr_gr rfl ⟨by decide, by decide +kernel⟩ (by decide) rfl ?_
          iterate 1 (refine tr_mv rfl (fun _ => rfl) ?_)
          refine tr_aan (d := X) (w := (295 + 29 * X)) (nn := 3) rfl hX (by decide) rfl (by decide +kernel) (by decide) (F_3 X hX).2.1 ?_
          iterate 2 (refine tr_mv rfl (fun _ => rfl) ?_)
          refine s_rem hX hT hE (cT.of o1 hT30 (fun r h => by omega) (fun h => h)) (cE.of o1 hE24 (fun r h => by omega) (fun h => h) (fun q i h => absurd h (fun g => g))) (D3 := D3) (o3 := o3) (fun X' hX' => ?_) rfl rfl rfl rfl (fun σ2 z1 z2 z3 => ?_)
          · obtain ⟨u1, u2, u3, u4⟩ := hX3 X' hX'
            refine ⟨u1, u2.of o1 (fun r h => by omega), u3.of o1 (fun j h => h), ?_⟩
            rcases u4 with u4 | ⟨u4, u5, u6⟩
            · exact Or.inl ((o1.2 _ _ (fun g => g)).trans u4)
            · exact Or.inr ⟨(o1.2 _ _ (fun g => g)).trans u4, (o1.1 _ (by omega)).trans u5, (o1.1 _ (by omega)).trans u6⟩
          · have tl2 := tl1.of z3 (fun r h => by omega)
            have rl2 := rl1.of z3 (fun r h => by omega)
            iterate 4 (refine tr_mv rfl (fun _ => rfl) ?_)
            refine tr_vc (q := (273 + 29 * X)) rfl (T_O (t_Tl hX)) rfl rfl rfl (s_120D (t_Tl hX) tl2 y1 rl2 r2 hh hq han hit (fun σ3 w1 w2 w3 => ?_))
            iterate 1 (refine tr_mv rfl (fun _ => rfl) ?_)
            refine tr_gr rfl ⟨by decide, by decide +kernel⟩ (by decide) rfl ?_
            refine tr_clear r_8 rfl rfl ?_
            iterate 1 (refine tr_mv rfl (fun _ => rfl) ?_)
            refine tr_gr rfl ⟨by decide, by decide +kernel⟩ (by decide) rfl ?_
            refine tr_clear r_6 rfl rfl ?_
            iterate 1 (refine tr_mv rfl (fun _ => rfl) ?_)
            have o4 : chg (fun r => r = 6 ∨ r = 8) noC σ3 (setR (setR σ3 8 []) 6 []) := (chg.rf.setR (Or.inr rfl)).setR (Or.inl rfl)
            have q6 : (setR (setR σ3 8 []) 6 []).1 6 = [] := setR_same ..
            have q8' : (setR (setR σ3 8 []) 6 []).1 8 = [] := by rw [setR_ne _ _ (by decide), setR_same]
            generalize setR (setR σ3 8 []) 6 [] = S4 at *
            have rl4 := w2.of o4 (fun r h => by omega)
            refine tr_vc (q := (273 + 29 * X)) rfl (T_O (t_Tl hX)) rfl rfl rfl (s_111 (t_Tl hX) ?_)
            refine tr_ri rfl (by rw [rl4.1, List.length_map]; simp) (K4 X S4 rfl hX hh g6 (w1.of o4 (fun r h => by omega)) rl4 q6 q8' ?_ ?_ ?_)
            · rw [o4.1 _ (by omega), w3.1 _ (by omega)]; exact z1
            · rw [o4.2 _ _ (fun g => g), w3.2 _ _ (fun g => g)]; exact z2
            · exact (o1.wk (fun r h => Or.inl h) (fun q i h => absurd h (fun g => g))).tr ((z3.wk (fun r h => Or.inr (Or.inl h)) (fun q i h => h)).tr ((w3.wk (fun r h => Or.inr (Or.inr (Or.inl h))) (fun q i h => absurd h (fun g => g))).tr (o4.wk (fun r h => by omega) (fun q i h => absurd h (fun g => g)))))
        · exact tr_throw rfl (K3 X S rfl hX hh g6 o1)
      · have g5 : ¬ x ≤ 7 := g4
        exact t27 (by omega)
  · exact tr_throw rfl (K1 g1)
theorem cX3.of (h : cX3 σ tx en D3 o3) (hc : chg Rr C σ σ') (hR : ∀ a, Rr a → ¬ (273 ≤ a ∧ a ≤ 358)) (hC : ∀ q i, C q i → ¬ (273 ≤ q ∧ q ≤ 358)) : cX3 σ' tx en D3 o3 := fun X hX => by
  obtain ⟨u1, u2, u3, u4⟩ := h X hX
  refine ⟨u1, u2.of hc (fun r g => by have := hR r g; omega), u3.of hc (fun j g => by have := hC _ _ g; omega), ?_⟩
  rcases u4 with u4 | ⟨u4, u5, u6⟩
  · exact Or.inl ((hc.2 _ _ (fun g => by have := hC _ _ g; omega)).trans u4)
  · exact Or.inr ⟨(hc.2 _ _ (fun g => by have := hC _ _ g; omega)).trans u4, (hc.1 _ (fun g => by have := hR _ g; omega)).trans u5, (hc.1 _ (fun g => by have := hR _ g; omega)).trans u6⟩
theorem s_135 (hT : okTx tx) (hE : okEn tx en) (cT : cTx σ tx) (cE : cEn σ en) (hX3 : cX3 σ tx en D3 o3) (hi : in32 i) (hx : in32 x) (hy : y = 0 ∨ y = 1)
    (K1 : ¬ ((0 ≤ i ∧ i < 3) ∧ 0 ≤ x ∧ x < 3) → post (.inr 0) σ)
    (K2 : ∀ (X j : Nat) (σ' : Sg), i = (X : Int) → x = (j : Int) → X < 3 → j < 3 → opC (273 + 29 * X) σ' (oU (o3 X) j y) → tlC (273 + 29 * X) σ' (D3 X) → σ'.1 ((295 + 29 * X) + 5) = ci (ordE tx en (D3 X) (o3 X) X) → σ'.2 (295 + 29 * X) 3 = 0 → chg (reR X) (fun q l => orC X q l ∨ (q = (273 + 29 * X) + 21 ∧ l = j)) σ σ' → post (.inl (some (mI (b2 (o3 X j = 1))))) σ') :
    Tr Ls (N + 1) 135 0 [some (mP (some 2)), some (mI i), some (mI x), some (mI y), none] [] σ post := by
  iterate 1 (refine tr_mv rfl (fun _ => rfl) ?_)
  refine tr_stat rfl rfl rfl (s_174 hi ?_)
  first | refine tr_ib rfl (fun g1 => ?_) (fun g1 => ?_) | refine tr_ibn rfl (fun g1 => ?_) (fun g1 => ?_)
  · exact tr_throw rfl (K1 (fun g => g1 g.1))
  · iterate 1 (refine tr_mv rfl (fun _ => rfl) ?_)
    refine tr_if2 rfl (m32_of (by omega)) (fun g2 => ?_) (fun g2 => ?_)
    · have g3 : x < 0 := g2
      exact tr_throw rfl (K1 (fun g => by omega))
    · have g3 : ¬ x < 0 := g2
      iterate 2 (refine tr_mv rfl (fun _ => rfl) ?_)
      refine tr_cmp2 rfl (m32_of (by omega)) (m32_of (by omega)) (fun g4 => ?_) (fun g4 => ?_)
      · have g5 : x < 3 := g4
        obtain ⟨X, rfl⟩ : ∃ X : Nat, i = (X : Int) := ⟨i.toNat, by omega⟩
        obtain ⟨j, rfl⟩ : ∃ j : Nat, x = (j : Int) := ⟨x.toNat, by omega⟩
        have hX : X < 3 := by omega
        have hj : j < 3 := by omega
        obtain ⟨y1, y2, y3, y4⟩ := hX3 X hX
        iterate 1 (refine tr_mv rfl (fun _ => rfl) ?_)
        refine tr_gr rfl ⟨by decide, by decide +kernel⟩ (by decide) rfl ?_
        iterate 1 (refine tr_mv rfl (fun _ => rfl) ?_)
        refine tr_aan (d := X) (w := (295 + 29 * X)) (nn := 3) rfl hX (by decide) rfl (by decide +kernel) (by decide) (F_3 X hX).2.1 ?_
        iterate 2 (refine tr_mv rfl (fun _ => rfl) ?_)
        refine s_rem hX hT hE cT cE (D3 := D3) (o3 := o3) hX3 rfl rfl rfl rfl (fun σ3 z1 z2 z3 => ?_)
        have op3 := y3.of z3 (fun j => by omega)
        iterate 1 (refine tr_mv rfl (fun _ => rfl) ?_)
        refine tr_gr rfl ⟨by decide, by decide +kernel⟩ (by decide) rfl ?_
        iterate 1 (refine tr_mv rfl (fun _ => rfl) ?_)
        refine tr_aan (d := X) (w := (273 + 29 * X)) (nn := 3) rfl hX (by decide) rfl (by decide +kernel) (by decide) (F_3 X hX).1 ?_
        iterate 1 (refine tr_mv rfl (fun _ => rfl) ?_)
        refine tr_vc (q := (273 + 29 * X)) rfl (T_O (t_Tl hX)) rfl rfl rfl (s_108D (t_Tl hX) op3 hj rfl ?_)
        iterate 2 (refine tr_mv rfl (fun _ => rfl) ?_)
        refine tr_gr rfl ⟨by decide, by decide +kernel⟩ (by decide) rfl ?_
        iterate 1 (refine tr_mv rfl (fun _ => rfl) ?_)
        refine tr_aan (d := X) (w := (273 + 29 * X)) (nn := 3) rfl hX (by decide) rfl (by decide +kernel) (by decide) (F_3 X hX).1 ?_
        iterate 2 (refine tr_mv rfl (fun _ => rfl) ?_)
        refine tr_vc (q := (273 + 29 * X)) rfl (T_O (t_Tl hX)) rfl rfl rfl (s_109 (t_Tl hX) (by omega) hy ?_)
        iterate 1 (refine tr_mv rfl (fun _ => rfl) ?_)
        rw [Int.toNat_natCast]
        refine tr_rb rfl (K2 X j _ rfl rfl hX hj (fun l hl => ?_) (show tlC (273 + 29 * X) σ3 (D3 X) from y2.of z3 (fun r h => by omega)) z1 ?_ ?_)
        · unfold oU
          by_cases g : l = j
          · rw [if_pos g, g, setF_same]
            exact ⟨rfl, hy⟩
          · rw [if_neg g, setF_ne _ _ (by omega)]
            exact op3 l hl
        · rw [setF_ne _ _ (by omega)]
          exact z2
        · exact (z3.wk (fun r h => h) (fun q l h => Or.inl h)).setF (Or.inr ⟨rfl, rfl⟩)
      · have g5 : ¬ x < 3 := g4
        exact tr_throw rfl (K1 (fun g => by omega))
end CRULE
