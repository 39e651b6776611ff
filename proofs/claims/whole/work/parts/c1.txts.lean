/-! Texts kept, drafts undone, anchors: both sides. -/
section TXTS
variable {Ls N k pc n : Nat} {σ σ' σ1 σ2 : Sg} {i x y z v : Int} {B M : Int → Int} {ds an : List Int} {R : Nat → Prop} {C : Nat → Nat → Prop} {ws rs PA PB : List Int} {tx : List (List Int)} {D3 : Nat → TD} {o3 : Nat → Nat → Int} {R3 : Nat → RuT} {hd : Nat → Int} {en : List EnT} {bf : Nat → List Nat} {rd : Nat → List Int} {hh ww : Int}
theorem op_2 (h : StR σ) : Tr Ls 1 333 0 [some (mP (some 2)), some (mP (some 533)), none] [] σ (jop Ls 225 [some (mP (some 480)), none]) := by
  obtain ⟨B, M, ds, an, tx, D3, o3, R3, hd, en, bf, ws, rs, rd, PA, PB, hh, ww, hok, hc, hm⟩ := h
  obtain ⟨hl, he⟩ := hok.lens
  have hE := hok.ens
  have hT : okTx tx := hok.2.2.2.1
  obtain ⟨c1, c2, cT, c4, cH, cE, cC, c8, c9⟩ := id hc
  have hd2 := okDr_apA hok.1.1 hok.2.1.2 hok.2.1.1
  iterate 3 (refine tr_mv rfl (fun _ => rfl) ?_)
  refine tr_vc1 (q := 2) rfl ⟨by decide, by decide +kernel⟩ rfl rfl rfl (s_130 (N := 0) (c1.dr c2.1 hok.1) hd2 hT cT ?_ ?_)
  · intro g1
    refine tk_ex rfl rfl ?_
    iterate 1 (refine tr_mv rfl (fun _ => rfl) ?_)
    refine tr_ri rfl rfl ?_
    refine ⟨1, rfl, ?_⟩
    obtain ⟨m1, m2, mT, -⟩ := id hm
    refine s_225 (N := 0) (m1.dr m2.1 hok.1 hok.2.1.2) hd2 hT mT ?_ ?_
    · intro g2
      exact ansE0 hok hc hm 1 (by decide)
    · intro σ2 g2 g3
      exact absurd g1 (fun c => c.elim (fun c => g2 c) (fun c => by omega))
  · intro σ' g1 g3 cT' f6 ch
    have hne : apA B M ds ≠ [] := fun c => g1 (hd2.2.2.2.mp c)
    have h1l : 1 ≤ (apA B M ds).length := List.length_pos_iff.mpr hne
    have hok2 : okSt B M [] an (tx ++ [apA B M ds]) D3 o3 R3 hd en bf ws rs rd PA PB hh ww := ⟨hok.1, ⟨Nat.zero_le _, fun s hs => (List.not_mem_nil hs).elim⟩, hok.2.2.1, okTx_snoc hT g3 hd2.2.2.1 h1l hd2.2.1, hok.rus, okEn_tx hE, hok.lcs, hok.rfs, fun X hX => by rw [ordE_tx hE]; exact hok.bfs X hX, okCo_tx hok.cos (by rw [List.length_append]; omega), hok.pns, hok.hws⟩
    have hc2 : cAll σ' B M [] an (tx ++ [apA B M ds]) D3 o3 R3 hd en bf ws rs rd PA PB hh ww := hc.txs hE ch (fun a g => by unfold scR; omega) (fun q i g => Or.inr g) f6 cT'
    iterate 1 (refine tr_mv rfl (fun _ => rfl) ?_)
    refine tr_ls rfl ?_
    iterate 2 (refine tr_mv rfl (fun _ => rfl) ?_)
    refine tr_ri rfl rfl ?_
    refine ⟨0, rfl, ?_⟩
    have hm3 := mAll.out (v := m32 (tx.length : Int)) hm (σ' := σ') (fun q i g => ch.2 q i (fun g2 => by omega))
    have hc3 := cAll.out (v := m32 (tx.length : Int)) hc2 hok2.lens.1 hok2.lens.2
    obtain ⟨m1, m2, mT, -⟩ := id hm3
    refine s_225 (N := 0) (m1.dr m2.1 hok.1 hok.2.1.2) hd2 hT mT ?_ ?_
    · intro g2
      exact absurd g2 (fun c => c.elim (fun c => g1 c) (fun c => by omega))
    · intro σ2 g2 g4 mT' k4 z9 o9
      exact ansU hok2 hc3 (hm3.txs o9 (fun q i g => by unfold scM; omega) (mDs_nil k4) mT') (setF_same ..) z9 o9 (fun q i g => by omega)
theorem op_3 (h : StR σ) : Tr Ls 1 131 0 [some (mP (some 2)), none] [] σ (jopD Ls 226 [some (mP (some 480)), none]) := by
  obtain ⟨B, M, ds, an, tx, D3, o3, R3, hd, en, bf, ws, rs, rd, PA, PB, hh, ww, hok, hc, hm⟩ := h
  obtain ⟨hl, he⟩ := hok.lens
  obtain ⟨c1, c2, cT, c4, cH, cE, cC, c8, c9⟩ := id hc
  refine s_131 (N := 1) c2.1 ?_
  have hok2 : okSt B M [] an tx D3 o3 R3 hd en bf ws rs rd PA PB hh ww := ⟨hok.1, ⟨Nat.zero_le _, fun s hs => (List.not_mem_nil hs).elim⟩, hok.2.2⟩
  have hc2 : cAll (setR σ 6 []) B M [] an tx D3 o3 R3 hd en bf ws rs rd PA PB hh ww := hc.dfs hl he (chg.setR (R := fun r => r = 6) (C := noC) chg.rf rfl) (fun a g => Or.inr (Or.inl g)) (fun q i g => g.elim) (setR_same ..) ((setR_ne _ _ (by decide)).trans c2.2)
  have hm2 : mAll (setR σ 6 []) B M ds an tx D3 o3 R3 hd en bf ws rs rd PA PB hh ww := hm.ofc (fun q i _ _ => rfl)
  generalize setR σ 6 [] = S at *
  obtain ⟨m1, m2, -⟩ := id hm2
  refine ⟨_, rfl, s_226 (N := 0) m2.1 ⟨rfl, ?_⟩⟩
  have o9 : only (fun q l => q = 480 ∧ (l = 0 ∨ l = 4)) S (setF (setF S 480 0 0) 480 4 0) := by
    have k1 : only (fun q l => q = 480 ∧ (l = 0 ∨ l = 4)) S (setF S 480 0 0) := only.setF only.rf ⟨rfl, Or.inl rfl⟩
    exact only.setF k1 ⟨rfl, Or.inr rfl⟩
  exact ⟨B, M, [], an, tx, D3, o3, R3, hd, en, bf, ws, rs, rd, PA, PB, hh, ww, hok2, hc2.ofm hl he o9 (fun q i g => by omega), hm2.dfs o9 (fun q i g => by unfold scM; omega) (mDs_nil (setF_same ..)) (m2.2.of o9 (fun q i g g2 => by omega))⟩
theorem op_4 (h : StR σ) : Tr Ls 1 334 0 [some (mP (some 2)), some (mP (some 533)), none] [] σ (jop Ls 246 [some (mP (some 480)), none]) := by
  obtain ⟨B, M, ds, an, tx, D3, o3, R3, hd, en, bf, ws, rs, rd, PA, PB, hh, ww, hok, hc, hm⟩ := h
  obtain ⟨hl, he⟩ := hok.lens
  obtain ⟨c1, c2, cT, c4, cH, cE, cC, c8, c9⟩ := id hc
  have hd2 := okDr_apA hok.1.1 hok.2.1.2 hok.2.1.1
  iterate 3 (refine tr_mv rfl (fun _ => rfl) ?_)
  refine tr_vc1 (q := 2) rfl ⟨by decide, by decide +kernel⟩ rfl rfl rfl (s_132 (N := 0) (c1.dr c2.1 hok.1) hd2 ?_ ?_)
  · intro g1
    refine tk_ex rfl rfl ?_
    iterate 1 (refine tr_mv rfl (fun _ => rfl) ?_)
    refine tr_ri rfl rfl ?_
    refine ⟨1, rfl, ?_⟩
    obtain ⟨m1, m2, mT, -⟩ := id hm
    refine s_246 (N := 0) (m1.dr m2.1 hok.1 hok.2.1.2) hd2 ?_ ?_
    · intro g2
      exact ansE0 hok hc hm 1 (by decide)
    · intro σ2 g2
      exact absurd g1 g2
  · intro g1
    have hok2 : okSt B M [] (apA B M ds) tx D3 o3 R3 hd en bf ws rs rd PA PB hh ww := ⟨hok.1, ⟨Nat.zero_le _, fun s hs => (List.not_mem_nil hs).elim⟩, ⟨hd2.2.1, hd2.2.2.1⟩, hok.2.2.2⟩
    have hch : chg (fun r => r = 6 ∨ r = 8) noC σ (setR (setR σ 8 (apA B M ds)) 6 []) := by
      have k1 : chg (fun r => r = 6 ∨ r = 8) noC σ (setR σ 8 (apA B M ds)) := chg.setR chg.rf (Or.inr rfl)
      exact chg.setR k1 (Or.inl rfl)
    have hc2 : cAll (setR (setR σ 8 (apA B M ds)) 6 []) B M [] (apA B M ds) tx D3 o3 R3 hd en bf ws rs rd PA PB hh ww := hc.dfs hl he hch (fun a g => Or.inr g) (fun q i g => g.elim) (setR_same ..) ((setR_ne _ _ (by decide)).trans (setR_same ..))
    iterate 1 (refine tr_mv rfl (fun _ => rfl) ?_)
    refine tr_ls rfl ?_
    iterate 2 (refine tr_mv rfl (fun _ => rfl) ?_)
    refine tr_ri rfl rfl ?_
    refine ⟨0, rfl, ?_⟩
    have hm3 := mAll.out (v := m32 ((apA B M ds).length : Int)) hm (σ' := setR (setR σ 8 (apA B M ds)) 6 []) (fun q i g => rfl)
    have hc3 := cAll.out (v := m32 ((apA B M ds).length : Int)) hc2 hl he
    obtain ⟨m1, m2, mT, -⟩ := id hm3
    refine s_246 (N := 0) (m1.dr m2.1 hok.1 hok.2.1.2) hd2 ?_ ?_
    · intro g2
      exact absurd g2 g1
    · intro σ2 g2 k1 k4 z9 o9
      exact ansU hok2 hc3 (hm3.dfs o9 (fun q i g => by unfold scM; omega) (mDs_nil k4) k1) (setF_same ..) z9 o9 (fun q i g => by omega)
end TXTS
