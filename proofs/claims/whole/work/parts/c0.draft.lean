/-! Signs, composed signs, texts, anchors: both sides. -/
def jopD (Ls kM : Nat) (L : mLs) : tP := fun o σ => ∃ v : Int, o = .inl (some (mI v)) ∧ Tr Ls 0 kM 0 L [] σ (fun o2 σ2 => o2 = .inl (some (mI v)) ∧ StR σ2)
section DRAFT
variable {Ls N k pc n : Nat} {σ σ' σ1 σ2 : Sg} {i x y z v : Int} {B M : Int → Int} {ds an : List Int} {R : Nat → Prop} {C : Nat → Nat → Prop} {ws rs PA PB : List Int} {tx : List (List Int)} {D3 : Nat → TD} {o3 : Nat → Nat → Int} {R3 : Nat → RuT} {hd : Nat → Int} {en : List EnT} {bf : Nat → List Nat} {rd : Nat → List Int} {hh ww : Int}
theorem cG1.dr (h : cG1 σ B M) (hd : σ.1 6 = ds) (hB : okBM B M) : cDr σ ds (apA B M ds) := by
  obtain ⟨⟨h1, h2⟩, -⟩ := h
  unfold cDr
  rw [h1, h2]
  exact ⟨hd, hB.2.2.1, hB.2.2.2.1, rfl⟩
theorem mG1.dr (h : mG1 σ B M) (hd : mDs σ ds) (hB : okBM B M) (hs : ∀ s ∈ ds, okS B s) : mDr σ ds (apA B M ds) :=
  ⟨hd.1, hd.2, ag_okB h.1 hB.1, fun s g => ag_okS h.1 (hs s g), apA_ag h.1 hB.1 hs⟩
theorem cmOk_iff (h : mG1 σ B M) (hB : okBM B M) : cmOkM σ i x y ↔ cmOk B i x y := by
  have h5 := hB.2.2.2.2
  constructor
  · rintro ⟨h1, h2, h3⟩
    refine ⟨by omega, ?_, h3⟩
    rcases h2 with g | ⟨g1, g2, g3⟩
    · exact Or.inl g
    · rw [h.1.1 x (by omega) (by omega)] at g3
      exact Or.inr g3
  · rintro ⟨h1, h2, h3⟩
    refine ⟨by omega, ?_, h3⟩
    rcases h2 with g | g
    · exact Or.inl g
    · have c : 40 ≤ x ∧ x < 48 := Decidable.byContradiction fun c => by
        have := h5 x c
        omega
      rw [h.1.1 x (by omega) (by omega)]
      exact Or.inr ⟨by omega, by omega, g⟩
theorem mDs_nil (h : σ.2 480 4 = 0) : mDs σ [] := ⟨h, fun i hi => absurd hi (Nat.not_lt_zero i)⟩
theorem mAn_nil (h : σ.2 480 6 = -1) : mAn σ [] := ⟨Or.inl ⟨rfl, h⟩, fun i hi => absurd hi (Nat.not_lt_zero i)⟩
theorem op_0 (h : StR σ) (hx : in32 x) : Tr Ls 1 331 0 [some (mP (some 2)), some (mI x), some (mP (some 533)), none] [] σ (jop Ls 220 [some (mP (some 480)), some (mI x)]) := by
  obtain ⟨B, M, ds, an, tx, D3, o3, R3, hd, en, bf, ws, rs, rd, PA, PB, hh, ww, hok, hc, hm⟩ := h
  obtain ⟨hl, he⟩ := hok.lens
  obtain ⟨c1, c2, cT, c4, cH, cE, cC, c8, c9⟩ := id hc
  iterate 4 (refine tr_mv rfl (fun _ => rfl) ?_)
  refine tr_vc1 (q := 2) rfl ⟨by decide, by decide +kernel⟩ rfl rfl rfl (s_128 (N := 0) c1.1 hok.1 c2.1 hok.2.1.1 hx ?_ ?_ ?_)
  · intro g1
    refine tk_ex rfl rfl ?_
    iterate 1 (refine tr_mv rfl (fun _ => rfl) ?_)
    refine tr_ri rfl rfl ?_
    refine ⟨1, rfl, ?_⟩
    obtain ⟨m1, m2, -⟩ := id hm
    refine s_220 (N := 0) m1.2.1 m2.1 hok.2.1.1 hx ?_ ?_ ?_
    · intro g2
      exact ansE0 hok hc hm 1 (by decide)
    · intro g2
      exact absurd ((isSg_iff hok.1).mpr (ag_okS' m1.1 g2)) g1
    · intro σ2 g2
      exact absurd ((isSg_iff hok.1).mpr (ag_okS' m1.1 g2)) g1
  · intro g1 g3
    refine tk_ex rfl rfl ?_
    iterate 1 (refine tr_mv rfl (fun _ => rfl) ?_)
    refine tr_ri rfl rfl ?_
    refine ⟨2, rfl, ?_⟩
    obtain ⟨m1, m2, -⟩ := id hm
    refine s_220 (N := 0) m1.2.1 m2.1 hok.2.1.1 hx ?_ ?_ ?_
    · intro g2
      exact absurd (ag_okS m1.1 ((isSg_iff hok.1).mp g1)) g2
    · intro g2 g4
      exact ansE0 hok hc hm 2 (by decide)
    · intro σ2 g2 g4
      exfalso
      omega
  · intro g1 g3
    have hok2 : okSt B M (ds ++ [x]) an tx D3 o3 R3 hd en bf ws rs rd PA PB hh ww := ⟨hok.1, ⟨by rw [List.length_append, List.length_singleton]; omega, fun s hs => (List.mem_append.mp hs).elim (hok.2.1.2 s) (fun g => by rw [List.mem_singleton.mp g]; exact (isSg_iff hok.1).mp g1)⟩, hok.2.2⟩
    have hc2 : cAll (setR σ 6 (ds ++ [x])) B M (ds ++ [x]) an tx D3 o3 R3 hd en bf ws rs rd PA PB hh ww := hc.dfs hl he (chg.setR (R := fun r => r = 6) (C := noC) chg.rf rfl) (fun a g => Or.inr (Or.inl g)) (fun q i g => g.elim) (setR_same ..) ((setR_ne _ _ (by decide)).trans c2.2)
    iterate 1 (refine tr_mv rfl (fun _ => rfl) ?_)
    refine tr_ls rfl ?_
    iterate 2 (refine tr_mv rfl (fun _ => rfl) ?_)
    refine tr_ri rfl rfl ?_
    refine ⟨0, rfl, ?_⟩
    have hm3 := mAll.out (v := m32 ((ds.length : Int) + 1)) hm (σ' := setR σ 6 (ds ++ [x])) (fun q i _ => rfl)
    have hc3 := cAll.out (v := m32 ((ds.length : Int) + 1)) hc2 hl he
    obtain ⟨m1, m2, -⟩ := id hm3
    refine s_220 (N := 0) m1.2.1 m2.1 hok.2.1.1 hx ?_ ?_ ?_
    · intro g2
      exact absurd (ag_okS m1.1 ((isSg_iff hok.1).mp g1)) g2
    · intro g2 g4
      exfalso
      omega
    · intro σ2 g2 g4 k1 z9 o9
      exact ansU hok2 hc3 (hm3.dfs o9 (fun q i g => by unfold scM; omega) k1 (m2.2.of o9 (fun q i g g2 => by omega))) (setF_same ..) z9 o9 (fun q i g => by omega)
theorem op_1 (h : StR σ) (hi : in32 i) (hx : in32 x) (hy : in32 y) : Tr Ls 1 332 0 [some (mP (some 2)), some (mI i), some (mI x), some (mI y), some (mP (some 533)), none] [] σ (jop Ls 222 [some (mP (some 480)), some (mI i), some (mI x), some (mI y), none, none, none, none]) := by
  obtain ⟨B, M, ds, an, tx, D3, o3, R3, hd, en, bf, ws, rs, rd, PA, PB, hh, ww, hok, hc, hm⟩ := h
  obtain ⟨hl, he⟩ := hok.lens
  obtain ⟨c1, c2, cT, c4, cH, cE, cC, c8, c9⟩ := id hc
  iterate 6 (refine tr_mv rfl (fun _ => rfl) ?_)
  refine tr_vc1 (q := 2) rfl ⟨by decide, by decide +kernel⟩ rfl rfl rfl (s_129 (N := 0) c1.1 hok.1 c1.2 hi hx hy ?_ ?_ ?_)
  · intro g1
    refine tk_ex rfl rfl ?_
    iterate 1 (refine tr_mv rfl (fun _ => rfl) ?_)
    refine tr_ri rfl rfl ?_
    refine ⟨1, rfl, ?_⟩
    obtain ⟨m1, m2, -⟩ := id hm
    refine s_222 (N := 0) m1.2.1 m1.2.2 (ag_injB m1.1 hok.1.2.1) hi hx hy ?_ ?_ ?_
    · intro g2
      exact ansE0 hok hc hm 1 (by decide)
    · intro g2
      exact absurd ((cmOk_iff m1 hok.1).mp g2) g1
    · intro g2
      exact absurd ((cmOk_iff m1 hok.1).mp g2) g1
  · intro g1 g3
    refine tk_ex rfl rfl ?_
    iterate 1 (refine tr_mv rfl (fun _ => rfl) ?_)
    refine tr_ri rfl rfl ?_
    refine ⟨2, rfl, ?_⟩
    obtain ⟨m1, m2, -⟩ := id hm
    refine s_222 (N := 0) m1.2.1 m1.2.2 (ag_injB m1.1 hok.1.2.1) hi hx hy ?_ ?_ ?_
    · intro g2
      exact absurd ((cmOk_iff m1 hok.1).mpr g1) g2
    · intro g2 g4
      exact ansE0 hok hc hm 2 (by decide)
    · intro g2 g4 g5
      have e1 := m1.1.1 i (by have := g1.1; omega) g1.1.2
      rw [e1] at g4
      rw [cof_ag m1.1 (cmOk_x hok.1 g1).2] at g5
      exact absurd g3 (fun c => c.elim (fun c => c g4) (fun c => c g5))
  · intro g1 g3 g5
    have x2 := (cmOk_x hok.1 g1).2
    have hi4 : 0 ≤ i ∧ i < 48 := by have := g1.1; omega
    have hok2 : okSt (fUp B i x) (fUp M i y) ds an tx D3 o3 R3 hd en bf ws rs rd PA PB hh ww := ⟨okBM_up hok.1 g1 g3 g5 hx hy, ⟨hok.2.1.1, fun s hs => okS_up x2 (hok.2.1.2 s hs)⟩, hok.2.2⟩
    have hch : chg noR (fun q _ => 3 ≤ q ∧ q ≤ 5) σ (setF (setF (setF σ 4 i.toNat x) 5 i.toNat y) 3 2 ((cnB B 8 : Int) + 1)) := by
      have k1 : chg noR (fun q _ => 3 ≤ q ∧ q ≤ 5) σ (setF σ 4 i.toNat x) := chg.setF chg.rf ⟨by decide, by decide⟩
      have k2 : chg noR (fun q _ => 3 ≤ q ∧ q ≤ 5) σ (setF (setF σ 4 i.toNat x) 5 i.toNat y) := chg.setF k1 ⟨by decide, by decide⟩
      exact chg.setF k2 ⟨by decide, by decide⟩
    have hcn : (cnB (fUp B i x) 8 : Int) = (cnB B 8 : Int) + 1 := by
      rw [cnB_up g1.1.1 g3 x2 8, if_pos (by have := g1.1; omega)]
      omega
    have hc2 : cAll (setF (setF (setF σ 4 i.toNat x) 5 i.toNat y) 3 2 ((cnB B 8 : Int) + 1)) (fUp B i x) (fUp M i y) ds an tx D3 o3 R3 hd en bf ws rs rd PA PB hh ww := hc.mix hl he hch (fun a g => g.elim) (fun q j g => Or.inr (Or.inl g)) ⟨⟨by rw [bOf_up hi4, c1.1.1], by rw [kOf_up hi4, c1.1.2]⟩, by rw [hcn]; exact setF_same ..⟩ (cH.of hch (fun j g => by omega)) (cC.of hch (fun a g => g.elim)) c8 ⟨(hch.2 _ _ (by omega)).trans c9.1, (hch.2 _ _ (by omega)).trans c9.2⟩
    have hk2 : ∀ q j, 480 ≤ q → (setF (setF (setF σ 4 i.toNat x) 5 i.toNat y) 3 2 ((cnB B 8 : Int) + 1)).2 q j = σ.2 q j := fun q j g => hch.2 q j (by omega)
    generalize setF (setF (setF σ 4 i.toNat x) 5 i.toNat y) 3 2 ((cnB B 8 : Int) + 1) = σ' at *
    iterate 1 (refine tr_mv rfl (fun _ => rfl) ?_)
    refine tr_ls rfl ?_
    iterate 2 (refine tr_mv rfl (fun _ => rfl) ?_)
    refine tr_ri rfl rfl ?_
    refine ⟨0, rfl, ?_⟩
    have hm3 := mAll.out (v := m32 ((cnB B 8 : Int) + 1)) hm hk2
    have hc3 := cAll.out (v := m32 ((cnB B 8 : Int) + 1)) hc2 hl he
    obtain ⟨m1, m2, mT, m4, mH, mE, mC, m8, m9⟩ := id hm3
    refine s_222 (N := 0) m1.2.1 m1.2.2 (ag_injB m1.1 hok.1.2.1) hi hx hy ?_ ?_ ?_
    · intro g2
      exact absurd ((cmOk_iff m1 hok.1).mpr g1) g2
    · intro g2 g4
      exfalso
      rw [m1.1.1 i hi4.1 hi4.2, cof_ag m1.1 x2] at g4
      exact g4.elim (fun c => c g3) (fun c => c g5)
    · intro g2 g4 g6
      have hbm := bMo_up (σ := setF σ' 533 0 (m32 ((cnB B 8 : Int) + 1))) (x := x) (y := y) (z := 0) g1.1.1
      have hkm := kMo_up (σ := setF σ' 533 0 (m32 ((cnB B 8 : Int) + 1))) (x := x) (y := y) (z := 0) g1.1.1
      have hag := agB_up (i := i) (x := x) (y := y) m1.1
      have o9 : only (fun q j => q = 481 ∨ q = 482 ∨ (q = 480 ∧ j = 0)) (setF σ' 533 0 (m32 ((cnB B 8 : Int) + 1))) (setF (setF (setF (setF σ' 533 0 (m32 ((cnB B 8 : Int) + 1))) 480 0 0) 481 (i - 40).toNat x) 482 (i - 40).toNat y) := by
        have k1 : only (fun q j => q = 481 ∨ q = 482 ∨ (q = 480 ∧ j = 0)) (setF σ' 533 0 (m32 ((cnB B 8 : Int) + 1))) (setF (setF σ' 533 0 (m32 ((cnB B 8 : Int) + 1))) 480 0 0) := only.setF only.rf (Or.inr (Or.inr ⟨rfl, rfl⟩))
        have k2 : only (fun q j => q = 481 ∨ q = 482 ∨ (q = 480 ∧ j = 0)) (setF σ' 533 0 (m32 ((cnB B 8 : Int) + 1))) (setF (setF (setF σ' 533 0 (m32 ((cnB B 8 : Int) + 1))) 480 0 0) 481 (i - 40).toNat x) := only.setF k1 (Or.inl rfl)
        exact only.setF k2 (Or.inr (Or.inl rfl))
      have hb : cnB (bMo (setF (setF (setF (setF σ' 533 0 (m32 ((cnB B 8 : Int) + 1))) 480 0 0) 481 (i - 40).toNat x) 482 (i - 40).toNat y)) 8 = cnB (fUp B i x) 8 := by
        rw [hbm]
        exact cnB_ag hag 8 (Nat.le_refl _)
      rw [hb, hcn]
      have hm4 : mG1 (setF (setF (setF (setF σ' 533 0 (m32 ((cnB B 8 : Int) + 1))) 480 0 0) 481 (i - 40).toNat x) 482 (i - 40).toNat y) (fUp B i x) (fUp M i y) := by
        unfold mG1
        rw [hbm, hkm]
        refine ⟨hag, fun s => ?_, fun s => ?_⟩
        · unfold fUp
          split
          · exact hx
          · exact m1.2.1 s
        · unfold fUp
          split
          · exact hy
          · exact m1.2.2 s
      exact ansU hok2 hc3 (hm3.mix o9 (fun q j g => by unfold scM; omega) hm4 (mH.of o9 (fun j g => by omega)) (mC.of o9 (fun q j g g2 => by omega)) (m8.of o9 (fun q j g g2 => by omega)) ⟨(o9.2 _ _ (by omega)).trans m9.1, (o9.2 _ _ (by omega)).trans m9.2⟩) (setF_same ..) ((setF_ne _ _ (by omega)).trans ((setF_ne _ _ (by omega)).trans (setF_same ..))) o9 (fun q j g => by omega)
end DRAFT
