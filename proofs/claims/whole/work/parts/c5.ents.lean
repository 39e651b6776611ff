/-! Entries and options told: both sides. -/
section ENTS
variable {Ls N k pc n : Nat} {σ σ' σ1 σ2 : Sg} {i x y z v : Int} {B M : Int → Int} {ds an dA : List Int} {R : Nat → Prop} {C : Nat → Nat → Prop} {ws rs PA PB : List Int} {tx : List (List Int)} {D3 : Nat → TD} {o3 : Nat → Nat → Int} {R3 : Nat → RuT} {hd : Nat → Int} {en : List EnT} {bf : Nat → List Nat} {rd : Nat → List Int} {hh ww : Int} {X : Nat} {D' : TD} {o' : Nat → Int} {R' : RuT}
theorem okM10 (hok : okSt B M ds an tx D3 o3 R3 hd en bf ws rs rd PA PB hh ww) : ∀ e ∈ en, (enM e).length ≤ 10 := fun e he => by
  have h := hok.lcs e he
  have h2 := h.len
  have h3 := h.2.2.2.2.1
  omega
theorem bf_ge {en' : List EnT} {tx' : List (List Int)} (hok : okSt B M ds an tx D3 o3 R3 hd en bf ws rs rd PA PB hh ww) (hE' : okEn tx' en') (h : ∀ Y e, e < en.length → inE en Y e = true → e < en'.length ∧ inE en' Y e = true) : ∀ Y, Y < 3 → (bf Y).length ≤ (ordE tx' en' (D3 Y) (o3 Y) Y).length ∧ ∀ e ∈ bf Y, e < 24 := fun Y hY => ⟨Nat.le_trans (hok.bfs Y hY).1 (ordE_le hok.ens hE' (h Y)), (hok.bfs Y hY).2⟩
theorem inE_snoc {w : EnT} {Y e : Nat} (he : e < en.length) (h : inE en Y e = true) : e < (en ++ [w]).length ∧ inE (en ++ [w]) Y e = true := by
  refine ⟨by rw [List.length_append]; omega, ?_⟩
  unfold inE at h ⊢
  rw [en_snoc, if_neg (by omega)]
  exact h
theorem inE_set {w : EnT} {a Y e : Nat} (ha : a < en.length) (hw : enS w = enS (en.getD a enD)) (he : e < en.length) (h : inE en Y e = true) : e < (en.set a w).length ∧ inE (en.set a w) Y e = true := by
  refine ⟨by rw [List.length_set]; exact he, ?_⟩
  unfold inE at h ⊢
  rw [en_set ha]
  by_cases c : e = a
  · rw [if_pos c, hw, ← c]
    exact h
  · rw [if_neg c]
    exact h
theorem enD_mem {a : Nat} (h : a < en.length) : en.getD a enD ∈ en := by
  rcases getD_en en a with g | g
  · exact g.2
  · omega
theorem teC_1 {q j : Nat} (g : teC q j) : (273 ≤ q ∧ q ≤ 358) → j = 3 ∧ (q = 295 ∨ q = 324 ∨ q = 353) := by omega
theorem teC_2 {q j : Nat} (g : teC q j) : scC q j ∨ (q = 2 ∧ j = 9) ∨ (360 ≤ q ∧ q ≤ 475) ∨ (j = 3 ∧ (q = 295 ∨ q = 324 ∨ q = 353)) := by omega
theorem op_9 (h : StR σ) (hi : in32 i) (hx : in32 x) (hy : in32 y) : Tr Ls 1 339 0 [some (mP (some 2)), some (mI i), some (mI x), some (mI y), some (mP (some 533)), none] [] σ (jop Ls 283 [some (mP (some 480)), some (mI i), some (mI x), some (mI y), none, none]) := by
  obtain ⟨B, M, ds, an, tx, D3, o3, R3, hd, en, bf, ws, rs, rd, PA, PB, hh, ww, hok, hc, hm⟩ := h
  obtain ⟨hl, he⟩ := hok.lens
  have hE := hok.ens
  have hT : okTx tx := hok.2.2.2.1
  obtain ⟨c1, c2, cT, c4, cH, cE, cC, c8, c9⟩ := id hc
  iterate 6 (refine tr_mv rfl (fun _ => rfl) ?_)
  refine tr_vc1 (q := 2) rfl ⟨by decide, by decide +kernel⟩ rfl rfl rfl (s_137 (N := 0) hE hT cT cE hi hx hy ?_ ?_ ?_ ?_)
  · intro g1
    refine tk_ex rfl rfl ?_
    refine tr_mv rfl (fun _ => rfl) ?_
    refine tr_ri rfl rfl ?_
    refine ⟨1, rfl, ?_⟩
    obtain ⟨m1, m2, mT, m4, mH, mE, mC, m8, m9⟩ := id hm
    refine s_283 (N := 0) hE hT mT mE hi hx hy ?_ ?_ ?_ ?_
    · intro g2
      exact ansE0 hok hc hm 1 (by decide)
    · intro g2 g4
      exfalso
      omega
    · intro g2 g4 g6
      exfalso
      exact g1 g2
    · intro σ2 g2 g4 g6 g8 k5 z9 o9
      exfalso
      exact g1 g2
  · intro g1 g3
    refine tk_ex rfl rfl ?_
    refine tr_mv rfl (fun _ => rfl) ?_
    refine tr_ri rfl rfl ?_
    refine ⟨2, rfl, ?_⟩
    obtain ⟨m1, m2, mT, m4, mH, mE, mC, m8, m9⟩ := id hm
    refine s_283 (N := 0) hE hT mT mE hi hx hy ?_ ?_ ?_ ?_
    · intro g2
      exfalso
      omega
    · intro g2 g4
      exact ansE0 hok hc hm 2 (by decide)
    · intro g2 g4 g6
      exfalso
      exact g3 g4
    · intro σ2 g2 g4 g6 g8 k5 z9 o9
      exfalso
      exact g3 g4
  · intro g1 g3 g5
    refine tk_ex rfl rfl ?_
    refine tr_mv rfl (fun _ => rfl) ?_
    refine tr_ri rfl rfl ?_
    refine ⟨3, rfl, ?_⟩
    obtain ⟨m1, m2, mT, m4, mH, mE, mC, m8, m9⟩ := id hm
    refine s_283 (N := 0) hE hT mT mE hi hx hy ?_ ?_ ?_ ?_
    · intro g2
      exfalso
      omega
    · intro g2 g4
      exfalso
      omega
    · intro g2 g4 g6
      exact ansE0 hok hc hm 3 (by decide)
    · intro σ2 g2 g4 g6 g8 k5 z9 o9
      exfalso
      exact g5.elim (fun c => g6.elim (fun d => c.1 d) (fun d => c.2 d)) (fun c => by omega)
  · intro σ' g1 g3 g5 g7 k1 k2 ch
    have hok2 : okSt B M ds an tx D3 o3 R3 hd (en ++ [enNew x.toNat i (enSet en i y)]) bf ws rs rd PA PB hh ww := ⟨hok.1, hok.2.1, hok.2.2.1, hT, hok.rus, okEn_snoc hE hT g7 g1 g3 g5, okLoc_snoc hok.lcs, okRf_snoc hok.rfs, bf_ge hok (okEn_snoc hE hT g7 g1 g3 g5) (fun Y e => inE_snoc), hok.cos, hok.pns, hok.hws⟩
    have hch : chg noR teC σ σ' := ch
    have hc2 : cAll (σ') B M ds an tx D3 o3 R3 hd (en ++ [enNew x.toNat i (enSet en i y)]) bf ws rs rd PA PB hh ww := hc.ens hl hch (fun a g => g.elim) (fun q j g => teC_2 g) k1 (c4.zero hch (fun a g => g.elim) (fun q j g => teC_1 g) k2) ((hch.1 104 (fun g => g.elim)).trans c8.1) ((hch.1 106 (fun g => g.elim)).trans c8.2)
    have hk2 : ∀ q j, 480 ≤ q → (σ').2 q j = σ.2 q j := fun q j g => hch.2 q j (by omega)
    have S9e : True := trivial
    refine tr_mv rfl (fun _ => rfl) ?_
    refine tr_ls rfl ?_
    iterate 2 (refine tr_mv rfl (fun _ => rfl) ?_)
    refine tr_ri rfl rfl ?_
    refine ⟨0, rfl, ?_⟩
    have hm3 := mAll.out (v := m32 ((en.length : Int))) hm hk2
    have hc3 := cAll.out (v := m32 ((en.length : Int))) hc2 hok2.lens.1 hok2.lens.2
    obtain ⟨m1, m2, mT, m4, mH, mE, mC, m8, m9⟩ := id hm3
    refine s_283 (N := 0) hE hT mT mE hi hx hy ?_ ?_ ?_ ?_
    · intro g2
      exfalso
      omega
    · intro g2 g4
      exfalso
      omega
    · intro g2 g4 g6
      exfalso
      exact g6.elim (fun c => g5.elim (fun d => c.1 d) (fun d => c.2 d)) (fun c => by omega)
    · intro σ2 g2 g4 g6 g8 k5 z9 o9
      exact ansU hok2 hc3 (hm3.ens o9 (fun q j g => by unfold scM; omega) k5 (m8.of o9 (fun q j g g2 => by omega))) (setF_same ..) z9 o9 (fun q j g => by omega)
theorem op_10 (h : StR σ) (hi : in32 i) (hx : in32 x) (hy : in32 y) : Tr Ls 1 340 0 [some (mP (some 2)), some (mI i), some (mI x), some (mI y), some (mP (some 533)), none] [] σ (jop Ls 284 [some (mP (some 480)), some (mI i), some (mI x), some (mI y), none, none, none, none]) := by
  obtain ⟨B, M, ds, an, tx, D3, o3, R3, hd, en, bf, ws, rs, rd, PA, PB, hh, ww, hok, hc, hm⟩ := h
  obtain ⟨hl, he⟩ := hok.lens
  have hE := hok.ens
  have hT : okTx tx := hok.2.2.2.1
  obtain ⟨c1, c2, cT, c4, cH, cE, cC, c8, c9⟩ := id hc
  iterate 6 (refine tr_mv rfl (fun _ => rfl) ?_)
  refine tr_vc1 (q := 2) rfl ⟨by decide, by decide +kernel⟩ rfl rfl rfl (s_138 (N := 0) hE hT cT cE hi hx hy ?_ ?_ ?_)
  · intro g1
    refine tk_ex rfl rfl ?_
    refine tr_mv rfl (fun _ => rfl) ?_
    refine tr_ri rfl rfl ?_
    refine ⟨1, rfl, ?_⟩
    obtain ⟨m1, m2, mT, m4, mH, mE, mC, m8, m9⟩ := id hm
    refine s_284 (N := 0) hE hT mT mE (okM10 hok) hi hx hy ?_ ?_ ?_
    · intro g2
      exact ansE0 hok hc hm 1 (by decide)
    · intro a2 e2 h2 g2
      exfalso
      omega
    · intro a2 σ2 e2 h2 g2 k5 z9 o9
      exfalso
      omega
  · intro a e1 h1 g1
    refine tk_ex rfl rfl ?_
    refine tr_mv rfl (fun _ => rfl) ?_
    refine tr_ri rfl rfl ?_
    refine ⟨2, rfl, ?_⟩
    obtain ⟨m1, m2, mT, m4, mH, mE, mC, m8, m9⟩ := id hm
    refine s_284 (N := 0) hE hT mT mE (okM10 hok) hi hx hy ?_ ?_ ?_
    · intro g2
      exfalso
      omega
    · intro a2 e2 h2 g2
      exact ansE0 hok hc hm 2 (by decide)
    · intro a2 σ2 e2 h2 g2 k5 z9 o9
      exfalso
      cases (show a2 = a by omega)
      exact g1 g2
  · intro a σ' e1 h1 g1 k1 k2 ch
    have hok2 : okSt B M ds an tx D3 o3 R3 hd (en.set a (enFm (en.getD a enD) x y)) bf ws rs rd PA PB hh ww := ⟨hok.1, hok.2.1, hok.2.2.1, hT, hok.rus, okEn_fm hE h1 g1, okLoc_set hok.lcs (hok.lcs (en.getD a enD) (enD_mem h1)), okRf_set hok.rfs (hok.rfs (en.getD a enD) (enD_mem h1)), bf_ge hok (okEn_fm hE h1 g1) (fun Y e => inE_set h1 rfl), hok.cos, hok.pns, hok.hws⟩
    have hch : chg noR teC σ σ' := ch
    have hc2 : cAll (σ') B M ds an tx D3 o3 R3 hd (en.set a (enFm (en.getD a enD) x y)) bf ws rs rd PA PB hh ww := hc.ens hl hch (fun a g => g.elim) (fun q j g => teC_2 g) k1 (c4.zero hch (fun a g => g.elim) (fun q j g => teC_1 g) k2) ((hch.1 104 (fun g => g.elim)).trans c8.1) ((hch.1 106 (fun g => g.elim)).trans c8.2)
    have hk2 : ∀ q j, 480 ≤ q → (σ').2 q j = σ.2 q j := fun q j g => hch.2 q j (by omega)
    have S9e : True := trivial
    refine tr_mv rfl (fun _ => rfl) ?_
    refine tr_ls rfl ?_
    iterate 2 (refine tr_mv rfl (fun _ => rfl) ?_)
    refine tr_ri rfl rfl ?_
    refine ⟨0, rfl, ?_⟩
    have hm3 := mAll.out (v := m32 (enK (en.getD a enD))) hm hk2
    have hc3 := cAll.out (v := m32 (enK (en.getD a enD))) hc2 hok2.lens.1 hok2.lens.2
    obtain ⟨m1, m2, mT, m4, mH, mE, mC, m8, m9⟩ := id hm3
    refine s_284 (N := 0) hE hT mT mE (okM10 hok) hi hx hy ?_ ?_ ?_
    · intro g2
      exfalso
      omega
    · intro a2 e2 h2 g2
      exfalso
      cases (show a2 = a by omega)
      exact g2 g1
    · intro a2 σ2 e2 h2 g2 k5 z9 o9
      cases (show a2 = a by omega)
      exact ansU hok2 hc3 (hm3.ens o9 (fun q j g => by unfold scM; omega) k5 (m8.of o9 (fun q j g g2 => by omega))) (setF_same ..) z9 o9 (fun q j g => by omega)
theorem op_17 (h : StR σ)  : Tr Ls 1 347 0 [some (mP (some 2)), some (mP (some 533)), none] [] σ (jop Ls 322 [some (mP (some 480)), none, none]) := by
  obtain ⟨B, M, ds, an, tx, D3, o3, R3, hd, en, bf, ws, rs, rd, PA, PB, hh, ww, hok, hc, hm⟩ := h
  obtain ⟨hl, he⟩ := hok.lens
  have hE := hok.ens
  have hT : okTx tx := hok.2.2.2.1
  obtain ⟨c1, c2, cT, c4, cH, cE, cC, c8, c9⟩ := id hc
  have rf_map : okRf (en.map (mvE PA PB)) := fun e9 h9 => by
    rw [List.length_map]
    obtain ⟨e0, h0, rfl⟩ := List.mem_map.mp h9
    exact hok.rfs e0 h0
  have lc_map : ∀ e9 ∈ en.map (mvE PA PB), okLoc (enL e9) (enM e9) := fun e9 h9 => by
    obtain ⟨e0, h0, rfl⟩ := List.mem_map.mp h9
    exact (hok.lcs e0 h0).move hok.pns
  iterate 3 (refine tr_mv rfl (fun _ => rfl) ?_)
  refine tr_vc1 (q := 2) rfl ⟨by decide, by decide +kernel⟩ rfl rfl rfl (s_145 (N := 0) he cE hok.lcs c8.1 c8.2 hok.pns ?_ ?_)
  · intro g1
    refine tk_ex rfl rfl ?_
    refine tr_mv rfl (fun _ => rfl) ?_
    refine tr_ri rfl rfl ?_
    refine ⟨1, rfl, ?_⟩
    obtain ⟨m1, m2, mT, m4, mH, mE, mC, m8, m9⟩ := id hm
    refine s_322 (N := 0) he mE hok.lcs m8.1 m8.2.1 m8.2.2 hok.pns ?_ ?_
    · intro g2
      exact ansE0 hok hc hm 1 (by decide)
    · intro σ2 g2 k5 k6 z9 o9
      exfalso
      omega
  · intro σ' g1 k1 f1 f2 ch
    have hok2 : okSt B M ds an tx D3 o3 R3 hd (en.map (mvE PA PB)) bf ws rs rd ([]) ([]) hh ww := ⟨hok.1, hok.2.1, hok.2.2.1, hT, hok.rus, okEn_same hE smE_map rf_map, lc_map, rf_map, fun Y hY => by rw [ordE_same smE_map]; exact hok.bfs Y hY, hok.cos, okPins_nil, hok.hws⟩
    have hch : chg edR noC σ σ' := ch
    have hc2 : cAll (σ') B M ds an tx D3 o3 R3 hd (en.map (mvE PA PB)) bf ws rs rd ([]) ([]) hh ww := hc.ens hl hch (fun a g => by unfold scR; omega) (fun q j g => g.elim) k1 ⟨(c4.of hch (fun a g => by omega) (fun q j g => g.elim)).1.same smE_map, (c4.of hch (fun a g => by omega) (fun q j g => g.elim)).2⟩ f1 f2
    have hk2 : ∀ q j, 480 ≤ q → (σ').2 q j = σ.2 q j := fun q j g => hch.2 q j (fun g => g.elim)
    have S9e : True := trivial
    refine tr_mv rfl (fun _ => rfl) ?_
    refine tr_ls rfl ?_
    iterate 2 (refine tr_mv rfl (fun _ => rfl) ?_)
    refine tr_ri rfl rfl ?_
    refine ⟨0, rfl, ?_⟩
    have hm3 := mAll.out (v := m32 ((mvT PA PB en))) hm hk2
    have hc3 := cAll.out (v := m32 ((mvT PA PB en))) hc2 hok2.lens.1 hok2.lens.2
    obtain ⟨m1, m2, mT, m4, mH, mE, mC, m8, m9⟩ := id hm3
    refine s_322 (N := 0) he mE hok.lcs m8.1 m8.2.1 m8.2.2 hok.pns ?_ ?_
    · intro g2
      exfalso
      omega
    · intro σ2 g2 k5 k6 z9 o9
      exact ansU hok2 hc3 (hm3.ens o9 (fun q j g => by unfold scM; omega) k5 (⟨k6, fun i hi => absurd hi (Nat.not_lt_zero i), fun i hi => absurd hi (Nat.not_lt_zero i)⟩)) (setF_same ..) z9 o9 (fun q j g => by omega)
end ENTS
