/-! The calls that only ask: both sides answer alike. -/
section ASK
variable {Ls N k pc n n' nn a b c q kd kM X : Nat} {L L0 : mLs} {st r as : List mV} {σ σ' σ1 σ2 : Sg} {post : tP} {i x y z u v : Int}
theorem op_20 (h : StR σ) (hi : in32 i) (hy : y = 0 ∨ y = 1) (hz : in32 z) : Tr Ls 1 349 0 [some (mP (some 2)), some (mI i), some (mI y), some (mI z), some (mP (some 533)), none] [] σ (jop Ls 269 [some (mP (some 480)), some (mI i), some (mI y), some (mI z)]) := by
  obtain ⟨B, M, ds, an, tx, D3, o3, R3, hd, en, bf, ws, rs, rd, PA, PB, hh, ww, hok, hc, hm⟩ := h
  obtain ⟨hl, he⟩ := hok.lens
  have hE := hok.ens
  have hT : okTx tx := hok.2.2.2.1
  obtain ⟨c1, c2, cT, c4, cH, cE, cC, c8, c9⟩ := id hc
  iterate 6 (refine tr_mv rfl (fun _ => rfl) ?_)
  refine tr_vc1 (q := 2) rfl ⟨by decide, by decide +kernel⟩ rfl rfl rfl (s_148 (N := 0) hT cT (c1.tg hok.1) hi hy hz ?_ ?_ ?_)
  · intro g1
    refine tk_ex rfl rfl ?_
    refine tr_mv rfl (fun _ => rfl) ?_
    refine tr_ri rfl rfl ?_
    refine ⟨1, rfl, ?_⟩
    obtain ⟨m1, m2, mT, m4, mH, mE, mC, m8, m9⟩ := id hm
    refine s_269 (N := 0) hT mT (m1.tg hok.1) hi hy hz (tgS_ok hT) ?_ ?_ ?_
    · intro g2
      exact ansE0 hok hc hm 1 (by decide)
    · intro a2 σ2 e2 k1 k2 k3 z9 o9
      exfalso
      omega
    · intro a2 σ2 e2 k1 k2 k3 z9 o9
      exfalso
      omega
  · intro a1 e1 h1 h2 h3
    have hc2 : cAll σ B M ds an tx D3 o3 R3 hd en bf ws rs rd PA PB hh ww := hc
    have hk2 : ∀ q i, 480 ≤ q → σ.2 q i = σ.2 q i := fun _ _ _ => rfl
    refine tr_mv rfl (fun _ => rfl) ?_
    refine tr_ls rfl ?_
    iterate 2 (refine tr_mv rfl (fun _ => rfl) ?_)
    refine tr_ri rfl rfl ?_
    refine ⟨0, rfl, ?_⟩
    obtain ⟨hc3, hm3⟩ := ansC (v := _) hm hl he hc2 hk2
    obtain ⟨m1, m2, mT, m4, mH, mE, mC, m8, m9⟩ := id hm3
    refine s_269 (N := 0) hT mT (m1.tg hok.1) hi hy hz (tgS_ok hT) ?_ ?_ ?_
    · intro g2
      exfalso
      omega
    · intro a2 σ2 e2 k1 k2 k3 z9 o9
      obtain rfl : a2 = a1 := by omega
      exact ansS hok hc3 hm3 (setF_same ..) z9 o9 (fun _ _ g => cCz_sc g)
    · intro a2 σ2 e2 k1 k2 k3 z9 o9
      exfalso
      omega
  · intro a1 e1 h1 h2 h3
    have hc2 : cAll (setR σ 142 (tgS B M tx a1)) B M ds an tx D3 o3 R3 hd en bf ws rs rd PA PB hh ww := hc.of hl he (chg.setR (R := fun r => r = 142) (C := noC) (xs := tgS B M tx a1) chg.rf rfl) (fun a g => by unfold scR; omega) (fun _ _ g => noC_sc g)
    have hk2 : ∀ q i, 480 ≤ q → (setR σ 142 (tgS B M tx a1)).2 q i = σ.2 q i := fun _ _ _ => rfl
    refine tr_mv rfl (fun _ => rfl) ?_
    refine tr_ls rfl ?_
    iterate 2 (refine tr_mv rfl (fun _ => rfl) ?_)
    refine tr_ri rfl rfl ?_
    refine ⟨0, rfl, ?_⟩
    obtain ⟨hc3, hm3⟩ := ansC (v := _) hm hl he hc2 hk2
    obtain ⟨m1, m2, mT, m4, mH, mE, mC, m8, m9⟩ := id hm3
    refine s_269 (N := 0) hT mT (m1.tg hok.1) hi hy hz (tgS_ok hT) ?_ ?_ ?_
    · intro g2
      exfalso
      omega
    · intro a2 σ2 e2 k1 k2 k3 z9 o9
      exfalso
      omega
    · intro a2 σ2 e2 k1 k2 k3 z9 o9
      obtain rfl : a2 = a1 := by omega
      exact ansS hok hc3 hm3 (setF_same ..) z9 o9 (fun _ _ g => cCz_sc g)
theorem op_21 (h : StR σ) (hi : in32 i) : Tr Ls 1 350 0 [some (mP (some 2)), some (mI i), some (mP (some 533)), none] [] σ (jop Ls 253 [some (mP (some 480)), some (mI i)]) := by
  obtain ⟨B, M, ds, an, tx, D3, o3, R3, hd, en, bf, ws, rs, rd, PA, PB, hh, ww, hok, hc, hm⟩ := h
  obtain ⟨hl, he⟩ := hok.lens
  have hE := hok.ens
  have hT : okTx tx := hok.2.2.2.1
  obtain ⟨c1, c2, cT, c4, cH, cE, cC, c8, c9⟩ := id hc
  iterate 4 (refine tr_mv rfl (fun _ => rfl) ?_)
  refine tr_vc1 (q := 2) rfl ⟨by decide, by decide +kernel⟩ rfl rfl rfl (s_149 (N := 0) (fun X hX => ⟨c4.2.1 X hX, hok.rus X hX⟩) hi ?_ ?_)
  · intro g1
    refine tk_ex rfl rfl ?_
    refine tr_mv rfl (fun _ => rfl) ?_
    refine tr_ri rfl rfl ?_
    refine ⟨1, rfl, ?_⟩
    obtain ⟨m1, m2, mT, m4, mH, mE, mC, m8, m9⟩ := id hm
    refine s_253 (N := 0) (fun X hX => ⟨m4.2.1 X hX, hok.rus X hX⟩) hi ?_ ?_
    · intro g2
      exact ansE0 hok hc hm 1 (by decide)
    · intro X2 e2 k1
      exfalso
      omega
  · intro X1 e1 h1
    have hc2 : cAll σ B M ds an tx D3 o3 R3 hd en bf ws rs rd PA PB hh ww := hc
    have hk2 : ∀ q i, 480 ≤ q → σ.2 q i = σ.2 q i := fun _ _ _ => rfl
    refine tr_mv rfl (fun _ => rfl) ?_
    refine tr_ls rfl ?_
    iterate 2 (refine tr_mv rfl (fun _ => rfl) ?_)
    refine tr_ri rfl rfl ?_
    refine ⟨0, rfl, ?_⟩
    obtain ⟨hc3, hm3⟩ := ansC (v := _) hm hl he hc2 hk2
    obtain ⟨m1, m2, mT, m4, mH, mE, mC, m8, m9⟩ := id hm3
    refine s_253 (N := 0) (fun X hX => ⟨m4.2.1 X hX, hok.rus X hX⟩) hi ?_ ?_
    · intro g2
      exfalso
      omega
    · intro X2 e2 k1
      obtain rfl : X2 = X1 := by omega
      exact ansS hok hc3 hm3 (setF_same ..) (setF_same ..) (only_0 _ 0) (fun _ _ g => c0_sc g)
theorem op_22 (h : StR σ) (hi : in32 i) (hx : in32 x) : Tr Ls 1 351 0 [some (mP (some 2)), some (mI i), some (mI x), some (mP (some 533)), none] [] σ (jop Ls 254 [some (mP (some 480)), some (mI i), some (mI x), none]) := by
  obtain ⟨B, M, ds, an, tx, D3, o3, R3, hd, en, bf, ws, rs, rd, PA, PB, hh, ww, hok, hc, hm⟩ := h
  obtain ⟨hl, he⟩ := hok.lens
  have hE := hok.ens
  have hT : okTx tx := hok.2.2.2.1
  obtain ⟨c1, c2, cT, c4, cH, cE, cC, c8, c9⟩ := id hc
  iterate 5 (refine tr_mv rfl (fun _ => rfl) ?_)
  refine tr_vc1 (q := 2) rfl ⟨by decide, by decide +kernel⟩ rfl rfl rfl (s_150 (N := 0) c4.1 hi hx ?_ ?_ ?_)
  · intro g1
    refine tk_ex rfl rfl ?_
    refine tr_mv rfl (fun _ => rfl) ?_
    refine tr_ri rfl rfl ?_
    refine ⟨1, rfl, ?_⟩
    obtain ⟨m1, m2, mT, m4, mH, mE, mC, m8, m9⟩ := id hm
    refine s_254 (N := 0) m4.1 hi hx ?_ ?_ ?_
    · intro g2
      exact ansE0 hok hc hm 1 (by decide)
    · intro X2 e2 k1 g2
      exfalso
      first | omega | (cases (show X2 = X1 by omega); omega)
    · intro X2 j2 e2 k1 e4 k2
      exfalso
      first | omega | (cases (show X2 = X1 by omega); omega)
  · intro X1 e1 h1 g1
    refine tk_ex rfl rfl ?_
    refine tr_mv rfl (fun _ => rfl) ?_
    refine tr_ri rfl rfl ?_
    refine ⟨1, rfl, ?_⟩
    obtain ⟨m1, m2, mT, m4, mH, mE, mC, m8, m9⟩ := id hm
    refine s_254 (N := 0) m4.1 hi hx ?_ ?_ ?_
    · intro g2
      exfalso
      omega
    · intro X2 e2 k1 g2
      exact ansE0 hok hc hm 1 (by decide)
    · intro X2 j2 e2 k1 e4 k2
      exfalso
      first | omega | (cases (show X2 = X1 by omega); omega)
  · intro X1 j1 e1 h1 e3 h2
    have hc2 : cAll σ B M ds an tx D3 o3 R3 hd en bf ws rs rd PA PB hh ww := hc
    have hk2 : ∀ q i, 480 ≤ q → σ.2 q i = σ.2 q i := fun _ _ _ => rfl
    refine tr_mv rfl (fun _ => rfl) ?_
    refine tr_ls rfl ?_
    iterate 2 (refine tr_mv rfl (fun _ => rfl) ?_)
    refine tr_ri rfl rfl ?_
    refine ⟨0, rfl, ?_⟩
    obtain ⟨hc3, hm3⟩ := ansC (v := _) hm hl he hc2 hk2
    obtain ⟨m1, m2, mT, m4, mH, mE, mC, m8, m9⟩ := id hm3
    refine s_254 (N := 0) m4.1 hi hx ?_ ?_ ?_
    · intro g2
      exfalso
      omega
    · intro X2 e2 k1 g2
      exfalso
      first | omega | (cases (show X2 = X1 by omega); omega)
    · intro X2 j2 e2 k1 e4 k2
      obtain rfl : X2 = X1 := by omega
      obtain rfl : j2 = j1 := by omega
      exact ansS hok hc3 hm3 (setF_same ..) (setF_same ..) (only_0 _ 0) (fun _ _ g => c0_sc g)
theorem op_23 (h : StR σ) (hi : in32 i) (hx : in32 x) (hz : in32 z) : Tr Ls 1 352 0 [some (mP (some 2)), some (mI i), some (mI x), some (mI z), some (mP (some 533)), none] [] σ (jop Ls 270 [some (mP (some 480)), some (mI i), some (mI x), some (mI z)]) := by
  obtain ⟨B, M, ds, an, tx, D3, o3, R3, hd, en, bf, ws, rs, rd, PA, PB, hh, ww, hok, hc, hm⟩ := h
  obtain ⟨hl, he⟩ := hok.lens
  have hE := hok.ens
  have hT : okTx tx := hok.2.2.2.1
  obtain ⟨c1, c2, cT, c4, cH, cE, cC, c8, c9⟩ := id hc
  iterate 6 (refine tr_mv rfl (fun _ => rfl) ?_)
  refine tr_vc1 (q := 2) rfl ⟨by decide, by decide +kernel⟩ rfl rfl rfl (s_151 (N := 0) hT cT c4.1 hi hx hz ?_ ?_)
  · intro g1
    refine tk_ex rfl rfl ?_
    refine tr_mv rfl (fun _ => rfl) ?_
    refine tr_ri rfl rfl ?_
    refine ⟨1, rfl, ?_⟩
    obtain ⟨m1, m2, mT, m4, mH, mE, mC, m8, m9⟩ := id hm
    refine s_270 (N := 0) hT mT m4.1 hi hx hz ?_ ?_
    · intro g2
      exact ansE0 hok hc hm 1 (by decide)
    · intro X2 a2 σ2 e2 e4 k1 k2 k3 z9 o9
      exfalso
      omega
  · intro X1 a1 σ' e1 e3 h1 h2 h3 ch
    have hc2 : cAll σ' B M ds an tx D3 o3 R3 hd en bf ws rs rd PA PB hh ww := hc.of hl he ch (fun _ g => colR_sc g) (fun _ _ g => colC_sc g)
    have hk2 : ∀ q i, 480 ≤ q → σ'.2 q i = σ.2 q i := fun q i g => ch.2 q i (fun g2 => absurd (colC_sc g2) (by unfold scC; omega))
    refine tr_mv rfl (fun _ => rfl) ?_
    refine tr_ls rfl ?_
    iterate 2 (refine tr_mv rfl (fun _ => rfl) ?_)
    refine tr_ri rfl rfl ?_
    refine ⟨0, rfl, ?_⟩
    obtain ⟨hc3, hm3⟩ := ansC (v := _) hm hl he hc2 hk2
    obtain ⟨m1, m2, mT, m4, mH, mE, mC, m8, m9⟩ := id hm3
    refine s_270 (N := 0) hT mT m4.1 hi hx hz ?_ ?_
    · intro g2
      exfalso
      omega
    · intro X2 a2 σ2 e2 e4 k1 k2 k3 z9 o9
      obtain rfl : X2 = X1 := by omega
      obtain rfl : a2 = a1 := by omega
      exact ansS hok hc3 hm3 (setF_same ..) z9 o9 (fun _ _ g => cCz_sc g)
theorem op_24 (h : StR σ) (hi : in32 i) (hy : in32 y) (hx : in32 x) (hz : in32 z) : Tr Ls 1 353 0 [some (mP (some 2)), some (mI i), some (mI y), some (mI x), some (mI z), some (mP (some 533)), none] [] σ (jop Ls 272 [some (mP (some 480)), some (mI i), some (mI y), some (mI x), some (mI z), none]) := by
  obtain ⟨B, M, ds, an, tx, D3, o3, R3, hd, en, bf, ws, rs, rd, PA, PB, hh, ww, hok, hc, hm⟩ := h
  obtain ⟨hl, he⟩ := hok.lens
  have hE := hok.ens
  have hT : okTx tx := hok.2.2.2.1
  obtain ⟨c1, c2, cT, c4, cH, cE, cC, c8, c9⟩ := id hc
  iterate 7 (refine tr_mv rfl (fun _ => rfl) ?_)
  refine tr_vc1 (q := 2) rfl ⟨by decide, by decide +kernel⟩ rfl rfl rfl (s_152 (N := 0) hT cT c4.1 hi hy hx hz ?_ ?_ ?_)
  · intro g1
    refine tk_ex rfl rfl ?_
    refine tr_mv rfl (fun _ => rfl) ?_
    refine tr_ri rfl rfl ?_
    refine ⟨1, rfl, ?_⟩
    obtain ⟨m1, m2, mT, m4, mH, mE, mC, m8, m9⟩ := id hm
    refine s_272 (N := 0) hT mT m4.1 hi hy hx hz ?_ ?_ ?_
    · intro g3
      exact ansE0 hok hc hm 1 (by decide)
    · intro g3 g4
      exfalso
      omega
    · intro X2 a2 d2 σ2 e2 e4 e6 k1 k2 k3 k4 z9 o9
      exfalso
      omega
  · intro g1 g2
    refine tk_ex rfl rfl ?_
    refine tr_mv rfl (fun _ => rfl) ?_
    refine tr_ri rfl rfl ?_
    refine ⟨2, rfl, ?_⟩
    obtain ⟨m1, m2, mT, m4, mH, mE, mC, m8, m9⟩ := id hm
    refine s_272 (N := 0) hT mT m4.1 hi hy hx hz ?_ ?_ ?_
    · intro g3
      exfalso
      omega
    · intro g3 g4
      exact ansE0 hok hc hm 2 (by decide)
    · intro X2 a2 d2 σ2 e2 e4 e6 k1 k2 k3 k4 z9 o9
      exfalso
      omega
  · intro X1 a1 d1 σ' e1 e3 e5 h1 h2 h3 h4 ch
    have hc2 : cAll σ' B M ds an tx D3 o3 R3 hd en bf ws rs rd PA PB hh ww := hc.of hl he ch (fun _ g => colR_sc g) (fun _ _ g => colC_sc g)
    have hk2 : ∀ q i, 480 ≤ q → σ'.2 q i = σ.2 q i := fun q i g => ch.2 q i (fun g2 => absurd (colC_sc g2) (by unfold scC; omega))
    refine tr_mv rfl (fun _ => rfl) ?_
    refine tr_ls rfl ?_
    iterate 2 (refine tr_mv rfl (fun _ => rfl) ?_)
    refine tr_ri rfl rfl ?_
    refine ⟨0, rfl, ?_⟩
    obtain ⟨hc3, hm3⟩ := ansC (v := _) hm hl he hc2 hk2
    obtain ⟨m1, m2, mT, m4, mH, mE, mC, m8, m9⟩ := id hm3
    refine s_272 (N := 0) hT mT m4.1 hi hy hx hz ?_ ?_ ?_
    · intro g3
      exfalso
      omega
    · intro g3 g4
      exfalso
      omega
    · intro X2 a2 d2 σ2 e2 e4 e6 k1 k2 k3 k4 z9 o9
      obtain rfl : X2 = X1 := by omega
      obtain rfl : a2 = a1 := by omega
      obtain rfl : d2 = d1 := by omega
      exact ansS hok hc3 hm3 (setF_same ..) z9 o9 (fun _ _ g => cCz_sc g)
theorem op_25 (h : StR σ) (hi : in32 i) (hy : in32 y) (hx : in32 x) (hz : in32 z) : Tr Ls 1 354 0 [some (mP (some 2)), some (mI i), some (mI y), some (mI x), some (mI z), some (mP (some 533)), none] [] σ (jop Ls 275 [some (mP (some 480)), some (mI i), some (mI y), some (mI x), some (mI z)]) := by
  obtain ⟨B, M, ds, an, tx, D3, o3, R3, hd, en, bf, ws, rs, rd, PA, PB, hh, ww, hok, hc, hm⟩ := h
  obtain ⟨hl, he⟩ := hok.lens
  have hE := hok.ens
  have hT : okTx tx := hok.2.2.2.1
  obtain ⟨c1, c2, cT, c4, cH, cE, cC, c8, c9⟩ := id hc
  iterate 7 (refine tr_mv rfl (fun _ => rfl) ?_)
  refine tr_vc1 (q := 2) rfl ⟨by decide, by decide +kernel⟩ rfl rfl rfl (s_153 (N := 0) hT cT c4.1 hi hy hx hz ?_ ?_ ?_)
  · intro g1
    refine tk_ex rfl rfl ?_
    refine tr_mv rfl (fun _ => rfl) ?_
    refine tr_ri rfl rfl ?_
    refine ⟨1, rfl, ?_⟩
    obtain ⟨m1, m2, mT, m4, mH, mE, mC, m8, m9⟩ := id hm
    refine s_275 (N := 0) hT mT m4.1 hi hy hx hz ?_ ?_ ?_
    · intro g3
      exact ansE0 hok hc hm 1 (by decide)
    · intro g3 g4
      exfalso
      omega
    · intro X2 a2 b2 d2 σ2 e2 e4 e6 e8 k1 k2 k3 k4 z9 o9
      exfalso
      omega
  · intro g1 g2
    refine tk_ex rfl rfl ?_
    refine tr_mv rfl (fun _ => rfl) ?_
    refine tr_ri rfl rfl ?_
    refine ⟨2, rfl, ?_⟩
    obtain ⟨m1, m2, mT, m4, mH, mE, mC, m8, m9⟩ := id hm
    refine s_275 (N := 0) hT mT m4.1 hi hy hx hz ?_ ?_ ?_
    · intro g3
      exfalso
      omega
    · intro g3 g4
      exact ansE0 hok hc hm 2 (by decide)
    · intro X2 a2 b2 d2 σ2 e2 e4 e6 e8 k1 k2 k3 k4 z9 o9
      exfalso
      omega
  · intro X1 a1 b1 d1 σ' e1 e3 e5 e7 h1 h2 h3 h4 ch
    have hc2 : cAll σ' B M ds an tx D3 o3 R3 hd en bf ws rs rd PA PB hh ww := hc.of hl he ch (fun _ g => colR_sc g) (fun _ _ g => colC_sc g)
    have hk2 : ∀ q i, 480 ≤ q → σ'.2 q i = σ.2 q i := fun q i g => ch.2 q i (fun g2 => absurd (colC_sc g2) (by unfold scC; omega))
    refine tr_mv rfl (fun _ => rfl) ?_
    refine tr_ls rfl ?_
    iterate 2 (refine tr_mv rfl (fun _ => rfl) ?_)
    refine tr_ri rfl rfl ?_
    refine ⟨0, rfl, ?_⟩
    obtain ⟨hc3, hm3⟩ := ansC (v := _) hm hl he hc2 hk2
    obtain ⟨m1, m2, mT, m4, mH, mE, mC, m8, m9⟩ := id hm3
    refine s_275 (N := 0) hT mT m4.1 hi hy hx hz ?_ ?_ ?_
    · intro g3
      exfalso
      omega
    · intro g3 g4
      exfalso
      omega
    · intro X2 a2 b2 d2 σ2 e2 e4 e6 e8 k1 k2 k3 k4 z9 o9
      obtain rfl : X2 = X1 := by omega
      obtain rfl : a2 = a1 := by omega
      obtain rfl : b2 = b1 := by omega
      obtain rfl : d2 = d1 := by omega
      exact ansS hok hc3 hm3 (setF_same ..) z9 o9 (fun _ _ g => cCz_sc g)
theorem op_26 (h : StR σ) (hi : in32 i) (hy : in32 y) (hx : in32 x) (hz : in32 z) : Tr Ls 1 355 0 [some (mP (some 2)), some (mI i), some (mI y), some (mI x), some (mI z), some (mP (some 533)), none] [] σ (jop Ls 276 [some (mP (some 480)), some (mI i), some (mI y), some (mI x), some (mI z)]) := by
  obtain ⟨B, M, ds, an, tx, D3, o3, R3, hd, en, bf, ws, rs, rd, PA, PB, hh, ww, hok, hc, hm⟩ := h
  obtain ⟨hl, he⟩ := hok.lens
  have hE := hok.ens
  have hT : okTx tx := hok.2.2.2.1
  obtain ⟨c1, c2, cT, c4, cH, cE, cC, c8, c9⟩ := id hc
  iterate 7 (refine tr_mv rfl (fun _ => rfl) ?_)
  refine tr_vc1 (q := 2) rfl ⟨by decide, by decide +kernel⟩ rfl rfl rfl (s_154 (N := 0) hT cT c4.1 hi hy hx hz ?_ ?_ ?_)
  · intro g1
    refine tk_ex rfl rfl ?_
    refine tr_mv rfl (fun _ => rfl) ?_
    refine tr_ri rfl rfl ?_
    refine ⟨1, rfl, ?_⟩
    obtain ⟨m1, m2, mT, m4, mH, mE, mC, m8, m9⟩ := id hm
    refine s_276 (N := 0) hT mT m4.1 hi hy hx hz ?_ ?_ ?_
    · intro g3
      exact ansE0 hok hc hm 1 (by decide)
    · intro g3 g4
      exfalso
      omega
    · intro X2 a2 b2 d2 σ2 e2 e4 e6 e8 k1 k2 k3 k4 z9 o9
      exfalso
      omega
  · intro g1 g2
    refine tk_ex rfl rfl ?_
    refine tr_mv rfl (fun _ => rfl) ?_
    refine tr_ri rfl rfl ?_
    refine ⟨2, rfl, ?_⟩
    obtain ⟨m1, m2, mT, m4, mH, mE, mC, m8, m9⟩ := id hm
    refine s_276 (N := 0) hT mT m4.1 hi hy hx hz ?_ ?_ ?_
    · intro g3
      exfalso
      omega
    · intro g3 g4
      exact ansE0 hok hc hm 2 (by decide)
    · intro X2 a2 b2 d2 σ2 e2 e4 e6 e8 k1 k2 k3 k4 z9 o9
      exfalso
      omega
  · intro X1 a1 b1 d1 σ' e1 e3 e5 e7 h1 h2 h3 h4 ch
    have hc2 : cAll σ' B M ds an tx D3 o3 R3 hd en bf ws rs rd PA PB hh ww := hc.of hl he ch (fun _ g => colR_sc g) (fun _ _ g => colC_sc g)
    have hk2 : ∀ q i, 480 ≤ q → σ'.2 q i = σ.2 q i := fun q i g => ch.2 q i (fun g2 => absurd (colC_sc g2) (by unfold scC; omega))
    refine tr_mv rfl (fun _ => rfl) ?_
    refine tr_ls rfl ?_
    iterate 2 (refine tr_mv rfl (fun _ => rfl) ?_)
    refine tr_ri rfl rfl ?_
    refine ⟨0, rfl, ?_⟩
    obtain ⟨hc3, hm3⟩ := ansC (v := _) hm hl he hc2 hk2
    obtain ⟨m1, m2, mT, m4, mH, mE, mC, m8, m9⟩ := id hm3
    refine s_276 (N := 0) hT mT m4.1 hi hy hx hz ?_ ?_ ?_
    · intro g3
      exfalso
      omega
    · intro g3 g4
      exfalso
      omega
    · intro X2 a2 b2 d2 σ2 e2 e4 e6 e8 k1 k2 k3 k4 z9 o9
      obtain rfl : X2 = X1 := by omega
      obtain rfl : a2 = a1 := by omega
      obtain rfl : b2 = b1 := by omega
      obtain rfl : d2 = d1 := by omega
      exact ansS hok hc3 hm3 (setF_same ..) z9 o9 (fun _ _ g => cCz_sc g)
theorem op_27 (h : StR σ) (hi : in32 i) (hy : in32 y) (hx : in32 x) (hz : in32 z) (hu : in32 u) : Tr Ls 1 356 0 [some (mP (some 2)), some (mI i), some (mI y), some (mI x), some (mI z), some (mI u), some (mP (some 533)), none] [] σ (jop Ls 280 [some (mP (some 480)), some (mI i), some (mI y), some (mI x), some (mI z), some (mI u), none]) := by
  obtain ⟨B, M, ds, an, tx, D3, o3, R3, hd, en, bf, ws, rs, rd, PA, PB, hh, ww, hok, hc, hm⟩ := h
  obtain ⟨hl, he⟩ := hok.lens
  have hE := hok.ens
  have hT : okTx tx := hok.2.2.2.1
  obtain ⟨c1, c2, cT, c4, cH, cE, cC, c8, c9⟩ := id hc
  iterate 8 (refine tr_mv rfl (fun _ => rfl) ?_)
  refine tr_vc1 (q := 2) rfl ⟨by decide, by decide +kernel⟩ rfl rfl rfl (s_155 (N := 0) hT cT c4.1 hi hy hx hz hu ?_ ?_ ?_)
  · intro g1
    refine tk_ex rfl rfl ?_
    refine tr_mv rfl (fun _ => rfl) ?_
    refine tr_ri rfl rfl ?_
    refine ⟨1, rfl, ?_⟩
    obtain ⟨m1, m2, mT, m4, mH, mE, mC, m8, m9⟩ := id hm
    refine s_280 (N := 0) hT mT m4.1 hi hy hx hz hu ?_ ?_ ?_
    · intro g3
      exact ansE0 hok hc hm 1 (by decide)
    · intro g3 g4
      exfalso
      omega
    · intro X2 a2 b2 d2 σ2 e2 e4 e6 e8 k1 k2 k3 k4 k5 z9 o9
      exfalso
      omega
  · intro g1 g2
    refine tk_ex rfl rfl ?_
    refine tr_mv rfl (fun _ => rfl) ?_
    refine tr_ri rfl rfl ?_
    refine ⟨2, rfl, ?_⟩
    obtain ⟨m1, m2, mT, m4, mH, mE, mC, m8, m9⟩ := id hm
    refine s_280 (N := 0) hT mT m4.1 hi hy hx hz hu ?_ ?_ ?_
    · intro g3
      exfalso
      omega
    · intro g3 g4
      exact ansE0 hok hc hm 2 (by decide)
    · intro X2 a2 b2 d2 σ2 e2 e4 e6 e8 k1 k2 k3 k4 k5 z9 o9
      exfalso
      omega
  · intro X1 a1 b1 d1 σ' e1 e3 e5 e7 h1 h2 h3 h4 h5 ch
    have hc2 : cAll σ' B M ds an tx D3 o3 R3 hd en bf ws rs rd PA PB hh ww := hc.of hl he ch (fun _ g => colR_sc g) (fun _ _ g => colC_sc g)
    have hk2 : ∀ q i, 480 ≤ q → σ'.2 q i = σ.2 q i := fun q i g => ch.2 q i (fun g2 => absurd (colC_sc g2) (by unfold scC; omega))
    refine tr_mv rfl (fun _ => rfl) ?_
    refine tr_ls rfl ?_
    iterate 2 (refine tr_mv rfl (fun _ => rfl) ?_)
    refine tr_ri rfl rfl ?_
    refine ⟨0, rfl, ?_⟩
    obtain ⟨hc3, hm3⟩ := ansC (v := _) hm hl he hc2 hk2
    obtain ⟨m1, m2, mT, m4, mH, mE, mC, m8, m9⟩ := id hm3
    refine s_280 (N := 0) hT mT m4.1 hi hy hx hz hu ?_ ?_ ?_
    · intro g3
      exfalso
      omega
    · intro g3 g4
      exfalso
      omega
    · intro X2 a2 b2 d2 σ2 e2 e4 e6 e8 k1 k2 k3 k4 k5 z9 o9
      obtain rfl : X2 = X1 := by omega
      obtain rfl : a2 = a1 := by omega
      obtain rfl : b2 = b1 := by omega
      obtain rfl : d2 = d1 := by omega
      exact ansS hok hc3 hm3 (setF_same ..) z9 o9 (fun _ _ g => cCz_sc g)
theorem op_29 (h : StR σ) (hi : in32 i) (hx : in32 x) : Tr Ls 1 357 0 [some (mP (some 2)), some (mI i), some (mI x), some (mP (some 533)), none] [] σ (jop Ls 297 [some (mP (some 480)), some (mI i), some (mI x), none]) := by
  obtain ⟨B, M, ds, an, tx, D3, o3, R3, hd, en, bf, ws, rs, rd, PA, PB, hh, ww, hok, hc, hm⟩ := h
  obtain ⟨hl, he⟩ := hok.lens
  have hE := hok.ens
  have hT : okTx tx := hok.2.2.2.1
  obtain ⟨c1, c2, cT, c4, cH, cE, cC, c8, c9⟩ := id hc
  iterate 5 (refine tr_mv rfl (fun _ => rfl) ?_)
  refine tr_vc1 (q := 2) rfl ⟨by decide, by decide +kernel⟩ rfl rfl rfl (s_157 (N := 0) hT hE cT cE c4.1 hi hx ?_ ?_ ?_)
  · intro σ' g1 e9
    subst e9
    refine tk_ex rfl rfl ?_
    refine tr_mv rfl (fun _ => rfl) ?_
    refine tr_ri rfl rfl ?_
    refine ⟨1, rfl, ?_⟩
    obtain ⟨m1, m2, mT, m4, mH, mE, mC, m8, m9⟩ := id hm
    refine s_297 (N := 0) m4.1 hT hE mT mE hi hx ?_ ?_ ?_
    · intro σ2 g2 z9 o9
      exact ansE hok hc hm 0 1 (by decide) o9 (fun _ _ g => cCz_sc g) z9
    · intro X2 σ2 e2 k1 g2 z9 o9
      exfalso
      first | omega | (cases (show X2 = X1 by omega); omega)
    · intro X2 j2 σ2 e2 k1 e4 k2 z9 o9
      exfalso
      first | omega | (cases (show X2 = X1 by omega); omega)
  · intro X1 σ' e1 h1 g1 f9 ch
    have hc2 : cAll σ' B M ds an tx D3 o3 R3 hd en bf ws rs rd PA PB hh ww := f9.elim (fun e => by rw [e]; exact hc) (fun f => hc.ord hl he h1 ch (fun _ g => orR_sc h1 g) (fun _ _ g => orC_sc h1 g) (Or.inr f))
    have hm2 : mAll σ' B M ds an tx D3 o3 R3 hd en bf ws rs rd PA PB hh ww := mAll.ofc hm (fun q i g _ => ch.2 q i (fun g2 => by omega))
    replace hc := hc2
    replace hm := hm2
    refine tk_ex rfl rfl ?_
    refine tr_mv rfl (fun _ => rfl) ?_
    refine tr_ri rfl rfl ?_
    refine ⟨1, rfl, ?_⟩
    obtain ⟨m1, m2, mT, m4, mH, mE, mC, m8, m9⟩ := id hm
    refine s_297 (N := 0) m4.1 hT hE mT mE hi hx ?_ ?_ ?_
    · intro σ2 g2 z9 o9
      exfalso
      omega
    · intro X2 σ2 e2 k1 g2 z9 o9
      exact ansE hok hc hm 0 1 (by decide) o9 (fun _ _ g => cCz_sc g) z9
    · intro X2 j2 σ2 e2 k1 e4 k2 z9 o9
      exfalso
      first | omega | (cases (show X2 = X1 by omega); omega)
  · intro X1 j1 σ' e1 h1 e3 h2 f1 f2 f3 ch
    have hc2 : cAll σ' B M ds an tx D3 o3 R3 hd en bf ws rs rd PA PB hh ww := hc.ord hl he h1 ch (fun _ g => orR_sc h1 g) (fun _ _ g => orC_sc h1 g) (Or.inr ⟨f1, f2, f3⟩)
    have hk2 : ∀ q i, 480 ≤ q → σ'.2 q i = σ.2 q i := fun q i g => ch.2 q i (fun g2 => by omega)
    refine tr_mv rfl (fun _ => rfl) ?_
    refine tr_ls rfl ?_
    iterate 2 (refine tr_mv rfl (fun _ => rfl) ?_)
    refine tr_ri rfl rfl ?_
    refine ⟨0, rfl, ?_⟩
    obtain ⟨hc3, hm3⟩ := ansC (v := _) hm hl he hc2 hk2
    obtain ⟨m1, m2, mT, m4, mH, mE, mC, m8, m9⟩ := id hm3
    refine s_297 (N := 0) m4.1 hT hE mT mE hi hx ?_ ?_ ?_
    · intro σ2 g2 z9 o9
      exfalso
      omega
    · intro X2 σ2 e2 k1 g2 z9 o9
      exfalso
      first | omega | (cases (show X2 = X1 by omega); omega)
    · intro X2 j2 σ2 e2 k1 e4 k2 z9 o9
      obtain rfl : X2 = X1 := by omega
      obtain rfl : j2 = j1 := by omega
      exact ansS hok hc3 hm3 (setF_same ..) z9 o9 (fun _ _ g => cCz_sc g)
theorem op_30 (h : StR σ) (hi : in32 i) (hx : in32 x) : Tr Ls 1 358 0 [some (mP (some 2)), some (mI i), some (mI x), some (mP (some 533)), none] [] σ (jop Ls 301 [some (mP (some 480)), some (mI i), some (mI x)]) := by
  obtain ⟨B, M, ds, an, tx, D3, o3, R3, hd, en, bf, ws, rs, rd, PA, PB, hh, ww, hok, hc, hm⟩ := h
  obtain ⟨hl, he⟩ := hok.lens
  have hE := hok.ens
  have hT : okTx tx := hok.2.2.2.1
  obtain ⟨c1, c2, cT, c4, cH, cE, cC, c8, c9⟩ := id hc
  iterate 5 (refine tr_mv rfl (fun _ => rfl) ?_)
  refine tr_vc1 (q := 2) rfl ⟨by decide, by decide +kernel⟩ rfl rfl rfl (s_158 (N := 0) hT hE cT cE c4.1 cH hi hx ?_ ?_)
  · intro g1
    refine tk_ex rfl rfl ?_
    refine tr_mv rfl (fun _ => rfl) ?_
    refine tr_ri rfl rfl ?_
    refine ⟨1, rfl, ?_⟩
    obtain ⟨m1, m2, mT, m4, mH, mE, mC, m8, m9⟩ := id hm
    refine s_301 (N := 0) m4.1 hT hE mT mE mH hi hx ?_ ?_
    · intro g2
      exact ansE0 hok hc hm 1 (by decide)
    · intro X2 a2 σ2 e2 e4 k1 k2 k3 z9 o9
      exfalso
      first | omega | exact g1 (inXE_of e2 e4 k1 k2 k3)
  · intro X1 a1 σ' e1 e3 h1 h2 h3 f1 f2 f3 ch
    have hc2 : cAll σ' B M ds an tx D3 o3 R3 hd en bf ws rs rd PA PB hh ww := hc.ord hl he h1 ch (fun _ g => orR_sc h1 g) (fun _ _ g => orC_sc h1 g) (Or.inr ⟨f1, f2, f3⟩)
    have hk2 : ∀ q i, 480 ≤ q → σ'.2 q i = σ.2 q i := fun q i g => ch.2 q i (fun g2 => by omega)
    refine tr_mv rfl (fun _ => rfl) ?_
    refine tr_ls rfl ?_
    iterate 2 (refine tr_mv rfl (fun _ => rfl) ?_)
    refine tr_ri rfl rfl ?_
    refine ⟨0, rfl, ?_⟩
    obtain ⟨hc3, hm3⟩ := ansC (v := _) hm hl he hc2 hk2
    obtain ⟨m1, m2, mT, m4, mH, mE, mC, m8, m9⟩ := id hm3
    refine s_301 (N := 0) m4.1 hT hE mT mE mH hi hx ?_ ?_
    · intro g2
      exfalso
      first | omega | exact g2 (inXE_of e1 e3 h1 h2 h3)
    · intro X2 a2 σ2 e2 e4 k1 k2 k3 z9 o9
      obtain rfl : X2 = X1 := by omega
      obtain rfl : a2 = a1 := by omega
      exact ansS hok hc3 hm3 (setF_same ..) z9 o9 (fun _ _ g => cCz_sc g)
theorem op_31 (h : StR σ) (hi : in32 i) (hx : in32 x) : Tr Ls 1 359 0 [some (mP (some 2)), some (mI i), some (mI x), some (mP (some 533)), none] [] σ (jop Ls 306 [some (mP (some 480)), some (mI i), some (mI x)]) := by
  obtain ⟨B, M, ds, an, tx, D3, o3, R3, hd, en, bf, ws, rs, rd, PA, PB, hh, ww, hok, hc, hm⟩ := h
  obtain ⟨hl, he⟩ := hok.lens
  have hE := hok.ens
  have hT : okTx tx := hok.2.2.2.1
  obtain ⟨c1, c2, cT, c4, cH, cE, cC, c8, c9⟩ := id hc
  iterate 5 (refine tr_mv rfl (fun _ => rfl) ?_)
  refine tr_vc1 (q := 2) rfl ⟨by decide, by decide +kernel⟩ rfl rfl rfl (s_159 (N := 0) he cE hok.lcs hi hx ?_ ?_ ?_)
  · intro g1
    refine tk_ex rfl rfl ?_
    refine tr_mv rfl (fun _ => rfl) ?_
    refine tr_ri rfl rfl ?_
    refine ⟨1, rfl, ?_⟩
    obtain ⟨m1, m2, mT, m4, mH, mE, mC, m8, m9⟩ := id hm
    refine s_306 (N := 0) he mE hok.lcs hi hx ?_ ?_ ?_
    · intro g2
      exact ansE0 hok hc hm 1 (by decide)
    · intro a2 σ2 e2 k1 k2 k3 o9
      exfalso
      first | omega | (cases (show a2 = a1 by omega); omega)
    · intro a2 j2 σ2 e2 k1 e4 k2 o9
      exfalso
      first | omega | (cases (show a2 = a1 by omega); omega)
  · intro a1 σ' e1 h1 h2 h3 ch
    have hc2 : cAll σ' B M ds an tx D3 o3 R3 hd en bf ws rs rd PA PB hh ww := hc.of hl he ch (fun _ g => gpR_sc g) (fun _ _ g => noC_sc g)
    have hk2 : ∀ q i, 480 ≤ q → σ'.2 q i = σ.2 q i := fun q i _ => ch.2 q i (fun g => g.elim)
    refine tr_mv rfl (fun _ => rfl) ?_
    refine tr_ls rfl ?_
    iterate 2 (refine tr_mv rfl (fun _ => rfl) ?_)
    refine tr_ri rfl rfl ?_
    refine ⟨0, rfl, ?_⟩
    obtain ⟨hc3, hm3⟩ := ansC (v := _) hm hl he hc2 hk2
    obtain ⟨m1, m2, mT, m4, mH, mE, mC, m8, m9⟩ := id hm3
    refine s_306 (N := 0) he mE hok.lcs hi hx ?_ ?_ ?_
    · intro g2
      exfalso
      omega
    · intro a2 σ2 e2 k1 k2 k3 o9
      obtain rfl : a2 = a1 := by omega
      exact ansS hok hc3 hm3 (setF_same ..) ((o9.2 480 0 (by omega)).trans (setF_same ..)) (only_two (only_0 _ 0) o9) (fun _ _ g => g.elim c0_sc cGp_sc)
    · intro a2 j2 σ2 e2 k1 e4 k2 o9
      exfalso
      first | omega | (cases (show a2 = a1 by omega); omega)
  · intro a1 j1 σ' e1 h1 e3 h2 ch
    have hc2 : cAll σ' B M ds an tx D3 o3 R3 hd en bf ws rs rd PA PB hh ww := hc.of hl he ch (fun _ g => gpR_sc g) (fun _ _ g => noC_sc g)
    have hk2 : ∀ q i, 480 ≤ q → σ'.2 q i = σ.2 q i := fun q i _ => ch.2 q i (fun g => g.elim)
    refine tr_mv rfl (fun _ => rfl) ?_
    refine tr_ls rfl ?_
    iterate 2 (refine tr_mv rfl (fun _ => rfl) ?_)
    refine tr_ri rfl rfl ?_
    refine ⟨0, rfl, ?_⟩
    obtain ⟨hc3, hm3⟩ := ansC (v := _) hm hl he hc2 hk2
    obtain ⟨m1, m2, mT, m4, mH, mE, mC, m8, m9⟩ := id hm3
    refine s_306 (N := 0) he mE hok.lcs hi hx ?_ ?_ ?_
    · intro g2
      exfalso
      omega
    · intro a2 σ2 e2 k1 k2 k3 o9
      exfalso
      first | omega | (cases (show a2 = a1 by omega); omega)
    · intro a2 j2 σ2 e2 k1 e4 k2 o9
      obtain rfl : a2 = a1 := by omega
      obtain rfl : j2 = j1 := by omega
      exact ansS hok hc3 hm3 (setF_same ..) ((o9.2 480 0 (by omega)).trans (setF_same ..)) (only_two (only_0 _ 0) o9) (fun _ _ g => g.elim c0_sc cGp_sc)
theorem op_32 (h : StR σ) (hi : in32 i) : Tr Ls 1 360 0 [some (mP (some 2)), some (mI i), some (mP (some 533)), none] [] σ (jop Ls 309 [some (mP (some 480)), some (mI i)]) := by
  obtain ⟨B, M, ds, an, tx, D3, o3, R3, hd, en, bf, ws, rs, rd, PA, PB, hh, ww, hok, hc, hm⟩ := h
  obtain ⟨hl, he⟩ := hok.lens
  have hE := hok.ens
  have hT : okTx tx := hok.2.2.2.1
  obtain ⟨c1, c2, cT, c4, cH, cE, cC, c8, c9⟩ := id hc
  iterate 4 (refine tr_mv rfl (fun _ => rfl) ?_)
  refine tr_vc1 (q := 2) rfl ⟨by decide, by decide +kernel⟩ rfl rfl rfl (s_160 (N := 0) hE hok.rfs cE hi ?_ ?_)
  · intro g1
    refine tk_ex rfl rfl ?_
    refine tr_mv rfl (fun _ => rfl) ?_
    refine tr_ri rfl rfl ?_
    refine ⟨1, rfl, ?_⟩
    obtain ⟨m1, m2, mT, m4, mH, mE, mC, m8, m9⟩ := id hm
    refine s_309 (N := 0) hE hok.rfs hok.lcs mE hi ?_ ?_
    · intro g2
      exact ansE0 hok hc hm 1 (by decide)
    · intro g2
      exfalso
      omega
  · intro g1
    have hc2 : cAll σ B M ds an tx D3 o3 R3 hd en bf ws rs rd PA PB hh ww := hc
    have hk2 : ∀ q i, 480 ≤ q → σ.2 q i = σ.2 q i := fun _ _ _ => rfl
    refine tr_mv rfl (fun _ => rfl) ?_
    refine tr_ls rfl ?_
    iterate 2 (refine tr_mv rfl (fun _ => rfl) ?_)
    refine tr_ri rfl rfl ?_
    refine ⟨0, rfl, ?_⟩
    obtain ⟨hc3, hm3⟩ := ansC (v := _) hm hl he hc2 hk2
    obtain ⟨m1, m2, mT, m4, mH, mE, mC, m8, m9⟩ := id hm3
    refine s_309 (N := 0) hE hok.rfs hok.lcs mE hi ?_ ?_
    · intro g2
      exfalso
      omega
    · intro g2
      exact ansS hok hc3 hm3 (setF_same ..) (setF_same ..) (only_0 _ 0) (fun _ _ g => c0_sc g)
theorem op_34 (h : StR σ) (hi : in32 i) : Tr Ls 1 361 0 [some (mP (some 2)), some (mI i), some (mP (some 533)), none] [] σ (jop Ls 298 [some (mP (some 480)), some (mI i), none, none]) := by
  obtain ⟨B, M, ds, an, tx, D3, o3, R3, hd, en, bf, ws, rs, rd, PA, PB, hh, ww, hok, hc, hm⟩ := h
  obtain ⟨hl, he⟩ := hok.lens
  have hE := hok.ens
  have hT : okTx tx := hok.2.2.2.1
  obtain ⟨c1, c2, cT, c4, cH, cE, cC, c8, c9⟩ := id hc
  iterate 4 (refine tr_mv rfl (fun _ => rfl) ?_)
  refine tr_vc1 (q := 2) rfl ⟨by decide, by decide +kernel⟩ rfl rfl rfl (s_162 (N := 0) hT hE cT cE c4.1 hi (fun X hX => ⟨c4.2.2 X hX, hok.bfs X hX⟩) ?_ ?_)
  · intro g1
    refine tk_ex rfl rfl ?_
    refine tr_mv rfl (fun _ => rfl) ?_
    refine tr_ri rfl rfl ?_
    refine ⟨1, rfl, ?_⟩
    obtain ⟨m1, m2, mT, m4, mH, mE, mC, m8, m9⟩ := id hm
    refine s_298 (N := 0) m4.1 hT hE mT mE m4.2.2 hok.bfs hi ?_ ?_
    · intro g2
      exact ansE0 hok hc hm 1 (by decide)
    · intro X2 σ2 e2 k1 z9 o9
      exfalso
      omega
  · intro X1 σ' e1 h1 f1 f2 f3 ch
    have hc2 : cAll σ' B M ds an tx D3 o3 R3 hd en bf ws rs rd PA PB hh ww := hc.ord hl he h1 ch (fun _ g => orR_sc h1 g) (fun _ _ g => orC_sc h1 g) (Or.inr ⟨f1, f2, f3⟩)
    have hk2 : ∀ q i, 480 ≤ q → σ'.2 q i = σ.2 q i := fun q i g => ch.2 q i (fun g2 => by omega)
    refine tr_mv rfl (fun _ => rfl) ?_
    refine tr_ls rfl ?_
    iterate 2 (refine tr_mv rfl (fun _ => rfl) ?_)
    refine tr_ri rfl rfl ?_
    refine ⟨0, rfl, ?_⟩
    obtain ⟨hc3, hm3⟩ := ansC (v := _) hm hl he hc2 hk2
    obtain ⟨m1, m2, mT, m4, mH, mE, mC, m8, m9⟩ := id hm3
    refine s_298 (N := 0) m4.1 hT hE mT mE m4.2.2 hok.bfs hi ?_ ?_
    · intro g2
      exfalso
      omega
    · intro X2 σ2 e2 k1 z9 o9
      obtain rfl : X2 = X1 := by omega
      exact ansS hok hc3 hm3 (setF_same ..) z9 o9 (fun _ _ g => cCz_sc g)
theorem op_35 (h : StR σ) (hi : in32 i) (hx : in32 x) : Tr Ls 1 362 0 [some (mP (some 2)), some (mI i), some (mI x), some (mP (some 533)), none] [] σ (jop Ls 326 [some (mP (some 480)), some (mI i), some (mI x)]) := by
  obtain ⟨B, M, ds, an, tx, D3, o3, R3, hd, en, bf, ws, rs, rd, PA, PB, hh, ww, hok, hc, hm⟩ := h
  obtain ⟨hl, he⟩ := hok.lens
  have hE := hok.ens
  have hT : okTx tx := hok.2.2.2.1
  obtain ⟨c1, c2, cT, c4, cH, cE, cC, c8, c9⟩ := id hc
  iterate 5 (refine tr_mv rfl (fun _ => rfl) ?_)
  refine tr_vc1 (q := 2) rfl ⟨by decide, by decide +kernel⟩ rfl rfl rfl (s_163 (N := 0) c9.2 hok.hws.1 c9.1 hok.hws.2 hT hE cT cE hok.lcs c4.1 cH (c1.tg hok.1) (tgS_ok hT) hi hx ?_ ?_)
  · intro g1
    refine tk_ex rfl rfl ?_
    refine tr_mv rfl (fun _ => rfl) ?_
    refine tr_ri rfl rfl ?_
    refine ⟨1, rfl, ?_⟩
    obtain ⟨m1, m2, mT, m4, mH, mE, mC, m8, m9⟩ := id hm
    refine s_326 (N := 0) m9.2 hok.hws.1 m9.1 hok.hws.2 m4.1 hT hE mT mE hok.lcs mH (m1.tg hok.1) (tgS_ok hT) hi hx ?_ ?_
    · intro g2
      exact ansE0 hok hc hm 1 (by decide)
    · intro X2 a2 σ2 e2 e4 k1 k2 k3 z9 o9
      exfalso
      first | omega | exact g1 (inXE_of e2 e4 k1 k2 k3)
  · intro X1 a1 σ' e1 e3 h1 h2 h3 f1 f2 f3 ch
    have hc2 : cAll σ' B M ds an tx D3 o3 R3 hd en bf ws rs rd PA PB hh ww := hc.ord hl he h1 ch (fun _ g => g.elim (orR_sc h1) (fun g => Or.inl (lcR_sc g))) (fun _ _ g => orC_sc h1 g) (Or.inr ⟨f1, f2, f3⟩)
    have hk2 : ∀ q i, 480 ≤ q → σ'.2 q i = σ.2 q i := fun q i g => ch.2 q i (fun g2 => by omega)
    refine tr_mv rfl (fun _ => rfl) ?_
    refine tr_ls rfl ?_
    iterate 2 (refine tr_mv rfl (fun _ => rfl) ?_)
    refine tr_ri rfl rfl ?_
    refine ⟨0, rfl, ?_⟩
    obtain ⟨hc3, hm3⟩ := ansC (v := _) hm hl he hc2 hk2
    obtain ⟨m1, m2, mT, m4, mH, mE, mC, m8, m9⟩ := id hm3
    refine s_326 (N := 0) m9.2 hok.hws.1 m9.1 hok.hws.2 m4.1 hT hE mT mE hok.lcs mH (m1.tg hok.1) (tgS_ok hT) hi hx ?_ ?_
    · intro g2
      exfalso
      first | omega | exact g2 (inXE_of e1 e3 h1 h2 h3)
    · intro X2 a2 σ2 e2 e4 k1 k2 k3 z9 o9
      obtain rfl : X2 = X1 := by omega
      obtain rfl : a2 = a1 := by omega
      exact ansS hok hc3 hm3 (setF_same ..) z9 o9 (fun _ _ g => cCz_sc g)
theorem op_36 (h : StR σ) (hx : in32 x) (hy : y = 0 ∨ y = 1) (hz : in32 z) : Tr Ls 1 363 0 [some (mP (some 2)), some (mI x), some (mI y), some (mI z), some (mP (some 533)), none] [] σ (jop Ls 318 [some (mP (some 480)), some (mI x), some (mI y), some (mI z), none, none, none]) := by
  obtain ⟨B, M, ds, an, tx, D3, o3, R3, hd, en, bf, ws, rs, rd, PA, PB, hh, ww, hok, hc, hm⟩ := h
  obtain ⟨hl, he⟩ := hok.lens
  have hE := hok.ens
  have hT : okTx tx := hok.2.2.2.1
  obtain ⟨c1, c2, cT, c4, cH, cE, cC, c8, c9⟩ := id hc
  iterate 6 (refine tr_mv rfl (fun _ => rfl) ?_)
  refine tr_vc1 (q := 2) rfl ⟨by decide, by decide +kernel⟩ rfl rfl rfl (s_164 (N := 0) hT cT (c4.1 0 (by decide)).1 (c4.1 0 (by decide)).2.1 (c4.1 0 (by decide)).2.2.1 hok.cos cC hx hy hz ?_ ?_)
  · intro g1
    refine tk_ex rfl rfl ?_
    refine tr_mv rfl (fun _ => rfl) ?_
    refine tr_ri rfl rfl ?_
    refine ⟨1, rfl, ?_⟩
    obtain ⟨m1, m2, mT, m4, mH, mE, mC, m8, m9⟩ := id hm
    refine s_318 (N := 0) (m4.1 0 (by decide)).2.1 (m4.1 0 (by decide)).1 (m4.1 0 (by decide)).2.2 hT mT hok.cos mC hx hy hz ?_ ?_
    · intro σ2 g2 z9 o9
      exact ansE hok hc hm 0 1 (by decide) o9 (fun _ _ g => cLn_sc g) z9
    · intro j2 σ2 g2 e2 k1 z9 o9
      exfalso
      omega
  · intro j1 σ' g1 e1 h1 ch
    have hc2 : cAll σ' B M ds an tx D3 o3 R3 hd en bf ws rs rd PA PB hh ww := hc.of hl he ch (fun _ g => lnR_sc g) (fun _ _ g => elC_sc g)
    have hk2 : ∀ q i, 480 ≤ q → σ'.2 q i = σ.2 q i := fun q i g => ch.2 q i (fun g2 => by omega)
    refine tr_mv rfl (fun _ => rfl) ?_
    refine tr_ls rfl ?_
    iterate 2 (refine tr_mv rfl (fun _ => rfl) ?_)
    refine tr_ri rfl rfl ?_
    refine ⟨0, rfl, ?_⟩
    obtain ⟨hc3, hm3⟩ := ansC (v := _) hm hl he hc2 hk2
    obtain ⟨m1, m2, mT, m4, mH, mE, mC, m8, m9⟩ := id hm3
    refine s_318 (N := 0) (m4.1 0 (by decide)).2.1 (m4.1 0 (by decide)).1 (m4.1 0 (by decide)).2.2 hT mT hok.cos mC hx hy hz ?_ ?_
    · intro σ2 g2 z9 o9
      exfalso
      omega
    · intro j2 σ2 g2 e2 k1 z9 o9
      obtain rfl : j2 = j1 := by omega
      exact ansS hok hc3 hm3 (setF_same ..) z9 o9 (fun _ _ g => cLn_sc g)
end ASK
