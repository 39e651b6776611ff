/-! Headings, words, readings, pins, sides: both sides. -/
section HEADS
variable {Ls N k pc n : Nat} {σ σ' σ1 σ2 : Sg} {i x y z v : Int} {B M : Int → Int} {ds an dA : List Int} {R : Nat → Prop} {C : Nat → Nat → Prop} {ws rs PA PB : List Int} {tx : List (List Int)} {D3 : Nat → TD} {o3 : Nat → Nat → Int} {R3 : Nat → RuT} {hd : Nat → Int} {en : List EnT} {bf : Nat → List Nat} {rd : Nat → List Int} {hh ww : Int} {X : Nat} {D' : TD} {o' : Nat → Int} {R' : RuT}
theorem op_8 (h : StR σ) (hx : in32 x) (hy : y = 0 ∨ y = 1) : Tr Ls 1 338 0 [some (mP (some 2)), some (mI x), some (mI y), some (mP (some 533)), none] [] σ (jop Ls 281 [some (mP (some 480)), some (mI x), some (mI y), none, none]) := by
  obtain ⟨B, M, ds, an, tx, D3, o3, R3, hd, en, bf, ws, rs, rd, PA, PB, hh, ww, hok, hc, hm⟩ := h
  obtain ⟨hl, he⟩ := hok.lens
  have hE := hok.ens
  have hT : okTx tx := hok.2.2.2.1
  obtain ⟨c1, c2, cT, c4, cH, cE, cC, c8, c9⟩ := id hc
  iterate 5 (refine tr_mv rfl (fun _ => rfl) ?_)
  refine tr_vc1 (q := 2) rfl ⟨by decide, by decide +kernel⟩ rfl rfl rfl (s_136 (N := 0) cH hx hy ?_ ?_)
  · intro g1
    refine tk_ex rfl rfl ?_
    refine tr_mv rfl (fun _ => rfl) ?_
    refine tr_ri rfl rfl ?_
    refine ⟨1, rfl, ?_⟩
    obtain ⟨m1, m2, mT, m4, mH, mE, mC, m8, m9⟩ := id hm
    refine s_281 (N := 0) mH hx hy ?_ ?_
    · intro g2
      exact ansE0 hok hc hm 1 (by decide)
    · intro l2 e2 h2 k2
      exfalso
      omega
  · intro l e1 h1 k1
    have hok2 : okSt B M ds an tx D3 o3 R3 (hdU hd l y) en bf ws rs rd PA PB hh ww := hok
    have hch : chg noR (fun q _ => q = 34) σ (setF σ 34 l y) := chg.setF chg.rf rfl
    have hc2 : cAll (setF σ 34 l y) B M ds an tx D3 o3 R3 (hdU hd l y) en bf ws rs rd PA PB hh ww := hc.mix hl he hch (fun a g => g.elim) (fun q j g => by omega) (c1.of hch (fun q j g => by omega)) k1 (cC.of hch (fun a g => g.elim)) c8 ⟨(hch.2 _ _ (by omega)).trans c9.1, (hch.2 _ _ (by omega)).trans c9.2⟩
    have hk2 : ∀ q j, 480 ≤ q → (setF σ 34 l y).2 q j = σ.2 q j := fun q j g => hch.2 q j (by omega)
    generalize setF σ 34 l y = S9 at *
    refine tr_mv rfl (fun _ => rfl) ?_
    refine tr_ls rfl ?_
    iterate 2 (refine tr_mv rfl (fun _ => rfl) ?_)
    refine tr_ri rfl rfl ?_
    refine ⟨0, rfl, ?_⟩
    have hm3 := mAll.out (v := m32 (hdC (hdU hd l y) 12 0)) hm hk2
    have hc3 := cAll.out (v := m32 (hdC (hdU hd l y) 12 0)) hc2 hok2.lens.1 hok2.lens.2
    obtain ⟨m1, m2, mT, m4, mH, mE, mC, m8, m9⟩ := id hm3
    refine s_281 (N := 0) mH hx hy ?_ ?_
    · intro g2
      exfalso
      omega
    · intro l2 e2 h2 k2
      cases (show l2 = l by omega)
      have o9 : only (fun q j => q = 512 ∨ (q = 480 ∧ j = 0)) (setF S9 533 0 (m32 (hdC (hdU hd l y) 12 0))) (setF (setF (setF S9 533 0 (m32 (hdC (hdU hd l y) 12 0))) 480 0 0) 512 l y) := by
        have q1 : only (fun q j => q = 512 ∨ (q = 480 ∧ j = 0)) (setF S9 533 0 (m32 (hdC (hdU hd l y) 12 0))) (setF (setF S9 533 0 (m32 (hdC (hdU hd l y) 12 0))) 480 0 0) := only.setF only.rf (Or.inr ⟨rfl, rfl⟩)
        exact only.setF q1 (Or.inl rfl)
      have z9 : (setF (setF (setF S9 533 0 (m32 (hdC (hdU hd l y) 12 0))) 480 0 0) 512 l y).2 480 0 = 0 := (setF_ne _ _ (by omega)).trans (setF_same ..)
      exact ansU hok2 hc3 (hm3.mix o9 (fun q j g => by unfold scM; omega) (m1.of o9 (fun q j g g2 => by omega)) (k2) (mC.of o9 (fun q j g g2 => by omega)) (m8.of o9 (fun q j g g2 => by omega)) (⟨(o9.2 _ _ (by omega)).trans m9.1, (o9.2 _ _ (by omega)).trans m9.2⟩)) (setF_same ..) z9 o9 (fun q j g => by omega)
theorem op_13 (h : StR σ) (hx : in32 x) : Tr Ls 1 343 0 [some (mP (some 2)), some (mI x), some (mP (some 533)), none] [] σ (jop Ls 312 [some (mP (some 480)), some (mI x)]) := by
  obtain ⟨B, M, ds, an, tx, D3, o3, R3, hd, en, bf, ws, rs, rd, PA, PB, hh, ww, hok, hc, hm⟩ := h
  obtain ⟨hl, he⟩ := hok.lens
  have hE := hok.ens
  have hT : okTx tx := hok.2.2.2.1
  obtain ⟨c1, c2, cT, c4, cH, cE, cC, c8, c9⟩ := id hc
  iterate 4 (refine tr_mv rfl (fun _ => rfl) ?_)
  refine tr_vc1 (q := 2) rfl ⟨by decide, by decide +kernel⟩ rfl rfl rfl (s_141 (N := 0) hT cT hok.cos cC hx ?_ ?_ ?_)
  · intro g1
    refine tk_ex rfl rfl ?_
    refine tr_mv rfl (fun _ => rfl) ?_
    refine tr_ri rfl rfl ?_
    refine ⟨1, rfl, ?_⟩
    obtain ⟨m1, m2, mT, m4, mH, mE, mC, m8, m9⟩ := id hm
    refine s_312 (N := 0) hT mT hok.cos mC hx ?_ ?_ ?_
    · intro g2
      exact ansE0 hok hc hm 1 (by decide)
    · intro g2 g4
      exfalso
      omega
    · intro σ2 g2 g4 k1 z9 o9
      exfalso
      omega
  · intro g1 g3
    refine tk_ex rfl rfl ?_
    refine tr_mv rfl (fun _ => rfl) ?_
    refine tr_ri rfl rfl ?_
    refine ⟨2, rfl, ?_⟩
    obtain ⟨m1, m2, mT, m4, mH, mE, mC, m8, m9⟩ := id hm
    refine s_312 (N := 0) hT mT hok.cos mC hx ?_ ?_ ?_
    · intro g2
      exfalso
      omega
    · intro g2 g4
      exact ansE0 hok hc hm 2 (by decide)
    · intro σ2 g2 g4 k1 z9 o9
      exfalso
      omega
  · intro g1 g3
    have hok2 : okSt B M ds an tx D3 o3 R3 hd en bf (ws ++ [x]) (rs ++ [-1]) rd PA PB hh ww := ⟨hok.1, hok.2.1, hok.2.2.1, hT, hok.rus, hE, hok.lcs, hok.rfs, hok.bfs, okCo_word hok.cos g3 g1, hok.pns, hok.hws⟩
    have hch : chg (fun r => r = 38 ∨ r = 40) noC σ (setR (setR σ 38 (ws ++ [x])) 40 (rs ++ [-1])) := (chg.setR (chg.setR (R := fun r => r = 38 ∨ r = 40) (C := noC) chg.rf (Or.inl rfl)) (Or.inr rfl))
    have hc2 : cAll (setR (setR σ 38 (ws ++ [x])) 40 (rs ++ [-1])) B M ds an tx D3 o3 R3 hd en bf (ws ++ [x]) (rs ++ [-1]) rd PA PB hh ww := hc.mix hl he hch (fun a g => by omega) (fun q j g => g.elim) (c1.of hch (fun q j g => g.elim)) (cH.of hch (fun j g => g.elim)) ⟨(setR_ne _ _ (by decide)).trans (setR_same ..), setR_same .., fun i hi => (hch.1 _ (by omega)).trans (cC.2.2 i hi)⟩ ⟨(hch.1 _ (by omega)).trans c8.1, (hch.1 _ (by omega)).trans c8.2⟩ c9
    have hk2 : ∀ q j, 480 ≤ q → (setR (setR σ 38 (ws ++ [x])) 40 (rs ++ [-1])).2 q j = σ.2 q j := fun q j g => hch.2 q j (fun g => g.elim)
    generalize setR (setR σ 38 (ws ++ [x])) 40 (rs ++ [-1]) = S9 at *
    refine tr_mv rfl (fun _ => rfl) ?_
    refine tr_ls rfl ?_
    iterate 2 (refine tr_mv rfl (fun _ => rfl) ?_)
    refine tr_ri rfl rfl ?_
    refine ⟨0, rfl, ?_⟩
    have hm3 := mAll.out (v := m32 ((ws.length : Int))) hm hk2
    have hc3 := cAll.out (v := m32 ((ws.length : Int))) hc2 hok2.lens.1 hok2.lens.2
    obtain ⟨m1, m2, mT, m4, mH, mE, mC, m8, m9⟩ := id hm3
    refine s_312 (N := 0) hT mT hok.cos mC hx ?_ ?_ ?_
    · intro g2
      exfalso
      omega
    · intro g2 g4
      exfalso
      omega
    · intro σ2 g2 g4 k1 z9 o9
      exact ansU hok2 hc3 (hm3.mix o9 (fun q j g => by unfold scM; omega) (m1.of o9 (fun q j g g2 => by omega)) (mH.of o9 (fun j g => by omega)) (k1) (m8.of o9 (fun q j g g2 => by omega)) (⟨(o9.2 _ _ (by omega)).trans m9.1, (o9.2 _ _ (by omega)).trans m9.2⟩)) (setF_same ..) z9 o9 (fun q j g => by omega)
theorem rdU_row {a j : Nat} {l : List Int} (cC : cCo σ ws rs rd) (hj : j < 30) : (setR σ (43 + 2 * a) l).1 (43 + 2 * j) = rdU rd a l j := by
  unfold rdU
  by_cases e : j = a
  · rw [if_pos e, e]
    exact setR_same ..
  · rw [if_neg e, setR_ne _ _ (by omega)]
    exact cC.2.2 j hj
theorem op_14 (h : StR σ) (hx : in32 x) (hy : in32 y) : Tr Ls 1 344 0 [some (mP (some 2)), some (mI x), some (mI y), some (mP (some 533)), none] [] σ (jop Ls 314 [some (mP (some 480)), some (mI x), some (mI y), none]) := by
  obtain ⟨B, M, ds, an, tx, D3, o3, R3, hd, en, bf, ws, rs, rd, PA, PB, hh, ww, hok, hc, hm⟩ := h
  obtain ⟨hl, he⟩ := hok.lens
  have hE := hok.ens
  have hT : okTx tx := hok.2.2.2.1
  obtain ⟨c1, c2, cT, c4, cH, cE, cC, c8, c9⟩ := id hc
  iterate 5 (refine tr_mv rfl (fun _ => rfl) ?_)
  refine tr_vc1 (q := 2) rfl ⟨by decide, by decide +kernel⟩ rfl rfl rfl (s_142 (N := 0) hT cT hok.cos cC hx hy ?_ ?_ ?_)
  · intro g1
    refine tk_ex rfl rfl ?_
    refine tr_mv rfl (fun _ => rfl) ?_
    refine tr_ri rfl rfl ?_
    refine ⟨1, rfl, ?_⟩
    obtain ⟨m1, m2, mT, m4, mH, mE, mC, m8, m9⟩ := id hm
    refine s_314 (N := 0) hT mT hok.cos mC hx hy ?_ ?_ ?_
    · intro g2
      exact ansE0 hok hc hm 1 (by decide)
    · intro a2 e2 g2 g4
      exfalso
      exact absurd g2 g1
    · intro a2 σ2 e2 h2 g2 g4 g6 k1 z9 o9
      exfalso
      exact absurd g2 g1
  · intro a e1 g1 g3
    refine tk_ex rfl rfl ?_
    refine tr_mv rfl (fun _ => rfl) ?_
    refine tr_ri rfl rfl ?_
    refine ⟨2, rfl, ?_⟩
    obtain ⟨m1, m2, mT, m4, mH, mE, mC, m8, m9⟩ := id hm
    refine s_314 (N := 0) hT mT hok.cos mC hx hy ?_ ?_ ?_
    · intro g2
      exfalso
      omega
    · intro a2 e2 g2 g4
      exact ansE0 hok hc hm 2 (by decide)
    · intro a2 σ2 e2 h2 g2 g4 g6 k1 z9 o9
      exfalso
      cases (show a2 = a by omega)
      exact g3.elim g4 (fun c => by omega)
  · intro a e1 h1 g1 g3 g5
    have hok2 : okSt B M ds an tx D3 o3 R3 hd en bf ws rs (rdU rd a (rd a ++ [y])) PA PB hh ww := ⟨hok.1, hok.2.1, hok.2.2.1, hT, hok.rus, hE, hok.lcs, hok.rfs, hok.bfs, okCo_reading hok.cos (by omega) g5, hok.pns, hok.hws⟩
    have hch : chg (fun r => r = (43 + 2 * a)) noC σ (setR σ (43 + 2 * a) (rd a ++ [y])) := chg.setR chg.rf rfl
    have hc2 : cAll (setR σ (43 + 2 * a) (rd a ++ [y])) B M ds an tx D3 o3 R3 hd en bf ws rs (rdU rd a (rd a ++ [y])) PA PB hh ww := hc.mix hl he hch (fun b g => by omega) (fun q j g => g.elim) (c1.of hch (fun q j g => g.elim)) (cH.of hch (fun j g => g.elim)) ⟨(hch.1 _ (by omega)).trans cC.1, (hch.1 _ (by omega)).trans cC.2.1, fun j hj => rdU_row cC hj⟩ ⟨(hch.1 _ (by omega)).trans c8.1, (hch.1 _ (by omega)).trans c8.2⟩ c9
    have hk2 : ∀ q j, 480 ≤ q → (setR σ (43 + 2 * a) (rd a ++ [y])).2 q j = σ.2 q j := fun q j g => hch.2 q j (fun g => g.elim)
    generalize setR σ (43 + 2 * a) (rd a ++ [y]) = S9 at *
    refine tr_mv rfl (fun _ => rfl) ?_
    refine tr_ls rfl ?_
    iterate 2 (refine tr_mv rfl (fun _ => rfl) ?_)
    refine tr_ri rfl rfl ?_
    refine ⟨0, rfl, ?_⟩
    have hm3 := mAll.out (v := m32 (((rd a).length + 1 : Int))) hm hk2
    have hc3 := cAll.out (v := m32 (((rd a).length + 1 : Int))) hc2 hok2.lens.1 hok2.lens.2
    obtain ⟨m1, m2, mT, m4, mH, mE, mC, m8, m9⟩ := id hm3
    refine s_314 (N := 0) hT mT hok.cos mC hx hy ?_ ?_ ?_
    · intro g2
      exfalso
      omega
    · intro a2 e2 g2 g4
      exfalso
      cases (show a2 = a by omega)
      exact g4.elim g3 (fun c => by omega)
    · intro a2 σ2 e2 h2 g2 g4 g6 k1 z9 o9
      cases (show a2 = a by omega)
      exact ansU hok2 hc3 (hm3.mix o9 (fun q j g => by unfold scM; omega) (m1.of o9 (fun q j g g2 => by omega)) (mH.of o9 (fun j g => by omega)) (k1) (m8.of o9 (fun q j g g2 => by omega)) (⟨(o9.2 _ _ (by omega)).trans m9.1, (o9.2 _ _ (by omega)).trans m9.2⟩)) (setF_same ..) z9 o9 (fun q j g => by omega)
theorem op_15 (h : StR σ) (hx : in32 x) (hy : in32 y) : Tr Ls 1 345 0 [some (mP (some 2)), some (mI x), some (mI y), some (mP (some 533)), none] [] σ (jop Ls 315 [some (mP (some 480)), some (mI x), some (mI y), none, none, none]) := by
  obtain ⟨B, M, ds, an, tx, D3, o3, R3, hd, en, bf, ws, rs, rd, PA, PB, hh, ww, hok, hc, hm⟩ := h
  obtain ⟨hl, he⟩ := hok.lens
  have hE := hok.ens
  have hT : okTx tx := hok.2.2.2.1
  obtain ⟨c1, c2, cT, c4, cH, cE, cC, c8, c9⟩ := id hc
  iterate 5 (refine tr_mv rfl (fun _ => rfl) ?_)
  refine tr_vc1 (q := 2) rfl ⟨by decide, by decide +kernel⟩ rfl rfl rfl (s_143 (N := 0) hl hok.cos cC hx hy ?_ ?_ ?_)
  · intro g1
    refine tk_ex rfl rfl ?_
    refine tr_mv rfl (fun _ => rfl) ?_
    refine tr_ri rfl rfl ?_
    refine ⟨1, rfl, ?_⟩
    obtain ⟨m1, m2, mT, m4, mH, mE, mC, m8, m9⟩ := id hm
    refine s_315 (N := 0) hl hok.cos mC hx hy ?_ ?_ ?_
    · intro g2
      exact ansE0 hok hc hm 1 (by decide)
    · intro p2 e2 h2 g2 g4
      exfalso
      exact g1 (by omega)
    · intro p2 σ2 e2 h2 g2 k1 z9 o9
      exfalso
      exact g1 (by omega)
  · intro p e1 h1 g1 g3
    refine tk_ex rfl rfl ?_
    refine tr_mv rfl (fun _ => rfl) ?_
    refine tr_ri rfl rfl ?_
    refine ⟨2, rfl, ?_⟩
    obtain ⟨m1, m2, mT, m4, mH, mE, mC, m8, m9⟩ := id hm
    refine s_315 (N := 0) hl hok.cos mC hx hy ?_ ?_ ?_
    · intro g2
      exfalso
      omega
    · intro p2 e2 h2 g2 g4
      exact ansE0 hok hc hm 2 (by decide)
    · intro p2 σ2 e2 h2 g2 k1 z9 o9
      exfalso
      cases (show p2 = p by omega)
      exact g2.elim g1 g3
  · intro p e1 h1 g1
    have hok2 : okSt B M ds an tx D3 o3 R3 hd en bf ws (rs.set p y) rd PA PB hh ww := ⟨hok.1, hok.2.1, hok.2.2.1, hT, hok.rus, hE, hok.lcs, hok.rfs, hok.bfs, okCo_read hok.cos hl h1 g1, hok.pns, hok.hws⟩
    have hch : chg (fun r => r = 40) noC σ (setR σ 40 (rs.set p y)) := chg.setR chg.rf rfl
    have hc2 : cAll (setR σ 40 (rs.set p y)) B M ds an tx D3 o3 R3 hd en bf ws (rs.set p y) rd PA PB hh ww := hc.mix hl he hch (fun b g => by omega) (fun q j g => g.elim) (c1.of hch (fun q j g => g.elim)) (cH.of hch (fun j g => g.elim)) ⟨(hch.1 _ (by omega)).trans cC.1, setR_same .., fun i hi => (hch.1 _ (by omega)).trans (cC.2.2 i hi)⟩ ⟨(hch.1 _ (by omega)).trans c8.1, (hch.1 _ (by omega)).trans c8.2⟩ c9
    have hk2 : ∀ q j, 480 ≤ q → (setR σ 40 (rs.set p y)).2 q j = σ.2 q j := fun q j g => hch.2 q j (fun g => g.elim)
    generalize setR σ 40 (rs.set p y) = S9 at *
    refine tr_mv rfl (fun _ => rfl) ?_
    refine tr_ls rfl ?_
    iterate 2 (refine tr_mv rfl (fun _ => rfl) ?_)
    refine tr_ri rfl rfl ?_
    refine ⟨0, rfl, ?_⟩
    have hm3 := mAll.out (v := m32 (rs.getD p 0)) hm hk2
    have hc3 := cAll.out (v := m32 (rs.getD p 0)) hc2 hok2.lens.1 hok2.lens.2
    obtain ⟨m1, m2, mT, m4, mH, mE, mC, m8, m9⟩ := id hm3
    refine s_315 (N := 0) hl hok.cos mC hx hy ?_ ?_ ?_
    · intro g2
      exfalso
      omega
    · intro p2 e2 h2 g2 g4
      exfalso
      cases (show p2 = p by omega)
      exact g1.elim g2 g4
    · intro p2 σ2 e2 h2 g2 k1 z9 o9
      cases (show p2 = p by omega)
      exact ansU hok2 hc3 (hm3.mix o9 (fun q j g => by unfold scM; omega) (m1.of o9 (fun q j g g2 => by omega)) (mH.of o9 (fun j g => by omega)) (k1) (m8.of o9 (fun q j g g2 => by omega)) (⟨(o9.2 _ _ (by omega)).trans m9.1, (o9.2 _ _ (by omega)).trans m9.2⟩)) (setF_same ..) z9 o9 (fun q j g => by omega)
theorem op_16 (h : StR σ) (hx : in32 x) (hy : in32 y) : Tr Ls 1 346 0 [some (mP (some 2)), some (mI x), some (mI y), some (mP (some 533)), none] [] σ (jop Ls 319 [some (mP (some 480)), some (mI x), some (mI y), none, none, none]) := by
  obtain ⟨B, M, ds, an, tx, D3, o3, R3, hd, en, bf, ws, rs, rd, PA, PB, hh, ww, hok, hc, hm⟩ := h
  obtain ⟨hl, he⟩ := hok.lens
  have hE := hok.ens
  have hT : okTx tx := hok.2.2.2.1
  obtain ⟨c1, c2, cT, c4, cH, cE, cC, c8, c9⟩ := id hc
  iterate 5 (refine tr_mv rfl (fun _ => rfl) ?_)
  refine tr_vc1 (q := 2) rfl ⟨by decide, by decide +kernel⟩ rfl rfl rfl (s_144 (N := 0) c8.1 c8.2 hok.pns hx hy ?_ ?_ ?_)
  · intro g1
    refine tk_ex rfl rfl ?_
    refine tr_mv rfl (fun _ => rfl) ?_
    refine tr_ri rfl rfl ?_
    refine ⟨1, rfl, ?_⟩
    obtain ⟨m1, m2, mT, m4, mH, mE, mC, m8, m9⟩ := id hm
    refine s_319 (N := 0) m8.1 m8.2.1 m8.2.2 hok.pns hx hy ?_ ?_ ?_
    · intro g2
      exact ansE0 hok hc hm 1 (by decide)
    · intro g2 g4
      exfalso
      omega
    · intro σ2 g2 g4 k1 k2 k3 o9 z9
      exfalso
      omega
  · intro g1 g3
    refine tk_ex rfl rfl ?_
    refine tr_mv rfl (fun _ => rfl) ?_
    refine tr_ri rfl rfl ?_
    refine ⟨2, rfl, ?_⟩
    obtain ⟨m1, m2, mT, m4, mH, mE, mC, m8, m9⟩ := id hm
    refine s_319 (N := 0) m8.1 m8.2.1 m8.2.2 hok.pns hx hy ?_ ?_ ?_
    · intro g2
      exfalso
      omega
    · intro g2 g4
      exact ansE0 hok hc hm 2 (by decide)
    · intro σ2 g2 g4 k1 k2 k3 o9 z9
      exfalso
      omega
  · intro g1 g3
    have hok2 : okSt B M ds an tx D3 o3 R3 hd en bf ws rs rd (PA ++ [x]) (PB ++ [y]) hh ww := ⟨hok.1, hok.2.1, hok.2.2.1, hT, hok.rus, hE, hok.lcs, hok.rfs, hok.bfs, hok.cos, okPins_snoc hok.pns g3 g1, hok.hws⟩
    have hch : chg (fun r => r = 104 ∨ r = 106) noC σ (setR (setR σ 104 (PA ++ [x])) 106 (PB ++ [y])) := (chg.setR (chg.setR (R := fun r => r = 104 ∨ r = 106) (C := noC) chg.rf (Or.inl rfl)) (Or.inr rfl))
    have hc2 : cAll (setR (setR σ 104 (PA ++ [x])) 106 (PB ++ [y])) B M ds an tx D3 o3 R3 hd en bf ws rs rd (PA ++ [x]) (PB ++ [y]) hh ww := hc.mix hl he hch (fun a g => by omega) (fun q j g => g.elim) (c1.of hch (fun q j g => g.elim)) (cH.of hch (fun j g => g.elim)) (cC.of hch (fun a g => by omega)) ⟨(setR_ne _ _ (by decide)).trans (setR_same ..), setR_same ..⟩ c9
    have hk2 : ∀ q j, 480 ≤ q → (setR (setR σ 104 (PA ++ [x])) 106 (PB ++ [y])).2 q j = σ.2 q j := fun q j g => hch.2 q j (fun g => g.elim)
    generalize setR (setR σ 104 (PA ++ [x])) 106 (PB ++ [y]) = S9 at *
    refine tr_mv rfl (fun _ => rfl) ?_
    refine tr_ls rfl ?_
    iterate 2 (refine tr_mv rfl (fun _ => rfl) ?_)
    refine tr_ri rfl rfl ?_
    refine ⟨0, rfl, ?_⟩
    have hm3 := mAll.out (v := m32 ((PA.length : Int) + 1)) hm hk2
    have hc3 := cAll.out (v := m32 ((PA.length : Int) + 1)) hc2 hok2.lens.1 hok2.lens.2
    obtain ⟨m1, m2, mT, m4, mH, mE, mC, m8, m9⟩ := id hm3
    refine s_319 (N := 0) m8.1 m8.2.1 m8.2.2 hok.pns hx hy ?_ ?_ ?_
    · intro g2
      exfalso
      omega
    · intro g2 g4
      exfalso
      omega
    · intro σ2 g2 g4 k1 k2 k3 o9 z9
      exact ansU hok2 hc3 (hm3.mix o9 (fun q j g => by unfold scM; omega) (m1.of o9 (fun q j g g2 => by omega)) (mH.of o9 (fun j g => by omega)) (mC.of o9 (fun q j g g2 => by omega)) (⟨k1, k2, k3⟩) (⟨(o9.2 _ _ (by omega)).trans m9.1, (o9.2 _ _ (by omega)).trans m9.2⟩)) (setF_same ..) z9 o9 (fun q j g => by omega)
theorem op_18 (h : StR σ) (hx : in32 x) (hy : in32 y) : Tr Ls 1 348 0 [some (mP (some 2)), some (mI x), some (mI y), some (mP (some 533)), none] [] σ (jop Ls 323 [some (mP (some 480)), some (mI x), some (mI y), none]) := by
  obtain ⟨B, M, ds, an, tx, D3, o3, R3, hd, en, bf, ws, rs, rd, PA, PB, hh, ww, hok, hc, hm⟩ := h
  obtain ⟨hl, he⟩ := hok.lens
  have hE := hok.ens
  have hT : okTx tx := hok.2.2.2.1
  obtain ⟨c1, c2, cT, c4, cH, cE, cC, c8, c9⟩ := id hc
  iterate 5 (refine tr_mv rfl (fun _ => rfl) ?_)
  refine tr_vc1 (q := 2) rfl ⟨by decide, by decide +kernel⟩ rfl rfl rfl (s_146 (N := 0) hx hy ?_ ?_)
  · intro g1
    refine tk_ex rfl rfl ?_
    refine tr_mv rfl (fun _ => rfl) ?_
    refine tr_ri rfl rfl ?_
    refine ⟨1, rfl, ?_⟩
    obtain ⟨m1, m2, mT, m4, mH, mE, mC, m8, m9⟩ := id hm
    refine s_323 (N := 0) hx hy ?_ ?_
    · intro g2
      exact ansE0 hok hc hm 1 (by decide)
    · intro g2
      exfalso
      omega
  · intro g1
    have hok2 : okSt B M ds an tx D3 o3 R3 hd en bf ws rs rd PA PB (y) (x) := ⟨hok.1, hok.2.1, hok.2.2.1, hT, hok.rus, hE, hok.lcs, hok.rfs, hok.bfs, hok.cos, hok.pns, ⟨g1.2, g1.1⟩⟩
    have hch : chg noR (fun q j => q = 2 ∧ (j = 13 ∨ j = 14)) σ (setF (setF σ 2 13 x) 2 14 y) := (chg.setF (chg.setF (R := noR) (C := fun q j => q = 2 ∧ (j = 13 ∨ j = 14)) chg.rf ⟨rfl, Or.inl rfl⟩) ⟨rfl, Or.inr rfl⟩)
    have hc2 : cAll (setF (setF σ 2 13 x) 2 14 y) B M ds an tx D3 o3 R3 hd en bf ws rs rd PA PB (y) (x) := hc.mix hl he hch (fun a g => g.elim) (fun q j g => by omega) (c1.of hch (fun q j g => by omega)) (cH.of hch (fun j g => by omega)) (cC.of hch (fun a g => g.elim)) c8 ⟨(setF_ne _ _ (by omega)).trans (setF_same ..), setF_same ..⟩
    have hk2 : ∀ q j, 480 ≤ q → (setF (setF σ 2 13 x) 2 14 y).2 q j = σ.2 q j := fun q j g => hch.2 q j (by omega)
    generalize setF (setF σ 2 13 x) 2 14 y = S9 at *
    refine tr_mv rfl (fun _ => rfl) ?_
    refine tr_ls rfl ?_
    iterate 2 (refine tr_mv rfl (fun _ => rfl) ?_)
    refine tr_ri rfl rfl ?_
    refine ⟨0, rfl, ?_⟩
    have hm3 := mAll.out (v := m32 (σ.2 2 13)) hm hk2
    have hc3 := cAll.out (v := m32 (σ.2 2 13)) hc2 hok2.lens.1 hok2.lens.2
    obtain ⟨m1, m2, mT, m4, mH, mE, mC, m8, m9⟩ := id hm3
    refine s_323 (N := 0) hx hy ?_ ?_
    · intro g2
      exfalso
      omega
    · intro g2
      have o9 : only (fun q j => q = 480 ∧ (j = 0 ∨ j = 68 ∨ j = 69)) (setF S9 533 0 (m32 (σ.2 2 13))) (setF (setF (setF (setF S9 533 0 (m32 (σ.2 2 13))) 480 0 0) 480 68 x) 480 69 y) := by
        have q1 : only (fun q j => q = 480 ∧ (j = 0 ∨ j = 68 ∨ j = 69)) (setF S9 533 0 (m32 (σ.2 2 13))) (setF (setF S9 533 0 (m32 (σ.2 2 13))) 480 0 0) := only.setF only.rf ⟨rfl, Or.inl rfl⟩
        have q2 : only (fun q j => q = 480 ∧ (j = 0 ∨ j = 68 ∨ j = 69)) (setF S9 533 0 (m32 (σ.2 2 13))) (setF (setF (setF S9 533 0 (m32 (σ.2 2 13))) 480 0 0) 480 68 x) := only.setF q1 ⟨rfl, Or.inr (Or.inl rfl)⟩
        exact only.setF q2 ⟨rfl, Or.inr (Or.inr rfl)⟩
      have z9 : (setF (setF (setF (setF S9 533 0 (m32 (σ.2 2 13))) 480 0 0) 480 68 x) 480 69 y).2 480 0 = 0 := (setF_ne _ _ (by omega)).trans ((setF_ne _ _ (by omega)).trans (setF_same ..))
      have w9 : (setF S9 533 0 (m32 (σ.2 2 13))).2 480 68 = σ.2 2 13 := m9.1.trans c9.1.symm
      rw [w9]
      exact ansU hok2 hc3 (hm3.mix o9 (fun q j g => by unfold scM; omega) (m1.of o9 (fun q j g g2 => by omega)) (mH.of o9 (fun j g => by omega)) (mC.of o9 (fun q j g g2 => by omega)) (m8.of o9 (fun q j g g2 => by omega)) (⟨(setF_ne _ _ (by omega)).trans (setF_same ..), setF_same ..⟩)) (setF_same ..) z9 o9 (fun q j g => by omega)
end HEADS
