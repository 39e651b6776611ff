/-! References told: both sides. -/
section SEES
variable {Ls N k pc n a : Nat} {L : mLs} {σ σ' σ1 σ2 : Sg} {post : tP} {i x y z v : Int} {B M : Int → Int} {ds an dA : List Int} {R : Nat → Prop} {C : Nat → Nat → Prop} {ws rs PA PB : List Int} {tx : List (List Int)} {D3 : Nat → TD} {o3 : Nat → Nat → Int} {R3 : Nat → RuT} {hd : Nat → Int} {en : List EnT} {bf : Nat → List Nat} {rd : Nat → List Int} {hh ww : Int} {X : Nat}
/-- an entry's references told anew, by both -/
theorem seeC (hok : okSt B M ds an tx D3 o3 R3 hd en bf ws rs rd PA PB hh ww) (hc : cAll σ B M ds an tx D3 o3 R3 hd en bf ws rs rd PA PB hh ww) (ha : a < en.length) {q9 : Nat} (hq : q9 = 7 ∨ q9 = 8) {w : EnT} (hw : w = (enT (en.getD a enD), enP (en.getD a enD), enS (en.getD a enD), enK (en.getD a enD), enA (en.getD a enD), enX w, enO w, enL (en.getD a enD), enM (en.getD a enD))) (h7 : (setF σ (360 + 5 * a) q9 v).2 (360 + 5 * a) 7 = enX w) (h8 : (setF σ (360 + 5 * a) q9 v).2 (360 + 5 * a) 8 = (enO w : Int)) : cAll (setF σ (360 + 5 * a) q9 v) B M ds an tx D3 o3 R3 hd (en.set a w) bf ws rs rd PA PB hh ww := by
  obtain ⟨hl, he⟩ := hok.lens
  obtain ⟨c1, c2, cT, c4, cH, cE, cC, c8, c9⟩ := id hc
  have hch : chg noR (fun q j => q = (360 + 5 * a) ∧ j = q9) σ (setF σ (360 + 5 * a) q9 v) := chg.setF chg.rf ⟨rfl, rfl⟩
  obtain ⟨q1, q2, q3⟩ := cE.2.1 a ha
  obtain ⟨q4, q5, q6, q7, q8⟩ := cE.2.2 a (by omega)
  have e1 : enT w = enT (en.getD a enD) := by rw [hw]
  have e2 : enP w = enP (en.getD a enD) := by rw [hw]
  have e3 : enS w = enS (en.getD a enD) := by rw [hw]
  have e4 : enK w = enK (en.getD a enD) := by rw [hw]
  have e5 : enA w = enA (en.getD a enD) := by rw [hw]
  have e6 : enL w = enL (en.getD a enD) := by rw [hw]
  have hs : smE en (en.set a w) := smE_set ha ⟨e1, e2, e3, e4, e5⟩
  have k1 : cEn (setF σ (360 + 5 * a) q9 v) (en.set a w) := cE.set ha he (hch.2 _ _ (by omega)) (fun j hj e => ⟨fun t => hch.2 _ _ (by omega), rfl⟩) (by rw [e1]; exact (hch.2 _ _ (by omega)).trans q1) (by rw [e2]; exact (hch.2 _ _ (by omega)).trans q2) (by rw [e3]; exact (hch.2 _ _ (by omega)).trans q3) (by rw [e4]; exact (hch.2 _ _ (by omega)).trans q4) (by rw [e5]; exact (hch.2 _ _ (by omega)).trans q5) h7 h8 (by rw [e6]; exact q8)
  exact hc.ens hl hch (fun r g => g.elim) (fun q j g => by omega) k1 ((c4.of hch (fun r g => g.elim) (fun q j g => by omega)).same hs) ((hch.1 104 (fun g => g.elim)).trans c8.1) ((hch.1 106 (fun g => g.elim)).trans c8.2)
theorem seeM (hok : okSt B M ds an tx D3 o3 R3 hd en bf ws rs rd PA PB hh ww) (hm : mAll σ B M ds an tx D3 o3 R3 hd en bf ws rs rd PA PB hh ww) (ha : a < en.length) {q9 : Nat} (hq : q9 = 520 ∨ q9 = 521) {w : EnT} (hw : w = (enT (en.getD a enD), enP (en.getD a enD), enS (en.getD a enD), enK (en.getD a enD), enA (en.getD a enD), enX w, enO w, enL (en.getD a enD), enM (en.getD a enD))) (h7 : (setF (setF σ 480 0 0) q9 a v).2 520 a = enX w) (h8 : (setF (setF σ 480 0 0) q9 a v).2 521 a = (enO w : Int)) : only (fun q j => (q = q9 ∧ j = a) ∨ (q = 480 ∧ j = 0)) σ (setF (setF σ 480 0 0) q9 a v) ∧ (setF (setF σ 480 0 0) q9 a v).2 480 0 = 0 ∧ mAll (setF (setF σ 480 0 0) q9 a v) B M ds an tx D3 o3 R3 hd (en.set a w) bf ws rs rd PA PB hh ww := by
  obtain ⟨hl, he⟩ := hok.lens
  obtain ⟨m1, m2, mT, m4, mH, mE, mC, m8, m9⟩ := id hm
  have o9 : only (fun q j => (q = q9 ∧ j = a) ∨ (q = 480 ∧ j = 0)) σ (setF (setF σ 480 0 0) q9 a v) := by
    have k2 : only (fun q j => (q = q9 ∧ j = a) ∨ (q = 480 ∧ j = 0)) σ (setF σ 480 0 0) := only.setF only.rf (Or.inr ⟨rfl, rfl⟩)
    exact only.setF k2 (Or.inl ⟨rfl, rfl⟩)
  have z9 : (setF (setF σ 480 0 0) q9 a v).2 480 0 = 0 := (setF_ne _ _ (by omega)).trans (setF_same ..)
  generalize setF (setF σ 480 0 0) q9 a v = S8 at *
  obtain ⟨p1, p2, p3, p4⟩ := mE.2.1 a ha
  obtain ⟨p5, p6, p7, p8, p9⟩ := mE.2.2 a (by omega)
  have e1 : enT w = enT (en.getD a enD) := by rw [hw]
  have e2 : enP w = enP (en.getD a enD) := by rw [hw]
  have e3 : enS w = enS (en.getD a enD) := by rw [hw]
  have e4 : enK w = enK (en.getD a enD) := by rw [hw]
  have e5 : enA w = enA (en.getD a enD) := by rw [hw]
  have e6 : enM w = enM (en.getD a enD) := by rw [hw]
  have k5 : mEn S8 (en.set a w) := mE.set ha he (o9.2 _ _ (by omega)) (fun j hj e => ⟨o9.2 _ _ (by omega), o9.2 _ _ (by omega), o9.2 _ _ (by omega), o9.2 _ _ (by omega), o9.2 _ _ (by omega), o9.2 _ _ (by omega), o9.2 _ _ (by omega), o9.2 _ _ (by omega), fun M' hM' hl' t ht => (o9.2 _ _ (by omega)).trans (hM' t ht)⟩) (okM10 hok) (by rw [e1]; exact (o9.2 _ _ (by omega)).trans p2) (by rw [e2]; exact (o9.2 _ _ (by omega)).trans p1) (by rw [e3]; exact (o9.2 _ _ (by omega)).trans p3) (by rw [e4]; exact (o9.2 _ _ (by omega)).trans p5) (by rw [e5]; exact (o9.2 _ _ (by omega)).trans p6) h7 h8 (by rw [e6]; exact (o9.2 _ _ (by omega)).trans p8) (by rw [e6]; exact fun t ht => (o9.2 _ _ (by omega)).trans (p9 t ht))
  exact ⟨o9, z9, hm.ens o9 (fun q j g => by unfold scM; omega) k5 (m8.of o9 (fun q j g g2 => by omega))⟩
theorem op_12 (h : StR σ) (hi : in32 i) (hx : in32 x) (hy : y = 0 ∨ y = 1) : Tr Ls 1 342 0 [some (mP (some 2)), some (mI i), some (mI x), some (mI y), some (mP (some 533)), none] [] σ (jopB Ls 287 [some (mP (some 480)), some (mI i), some (mI x), some (mI y), none, none, none]) := by
  obtain ⟨B, M, ds, an, tx, D3, o3, R3, hd, en, bf, ws, rs, rd, PA, PB, hh, ww, hok, hc, hm⟩ := h
  obtain ⟨hl, he⟩ := hok.lens
  obtain ⟨c1, c2, cT, c4, cH, cE, cC, c8, c9⟩ := id hc
  iterate 6 (refine tr_mv rfl (fun _ => rfl) ?_)
  refine tr_vc1 (q := 2) rfl ⟨by decide, by decide +kernel⟩ rfl rfl rfl (s_140 (N := 0) he cE hok.rfs hi hx hy ?_ ?_ ?_ ?_ ?_)
  · intro g1
    refine tk_ex rfl rfl ?_
    iterate 1 (refine tr_mv rfl (fun _ => rfl) ?_)
    refine tr_ri rfl rfl ?_
    refine ⟨1, rfl, ?_⟩
    obtain ⟨m1, m2, mT, m4, mH, mE, mC, m8, m9⟩ := id hm
    exact s_287 (N := 0) he mE hok.rfs hi hx hy (fun _ => ansE0B hok hc hm 1 (by decide)) (fun g => absurd g g1) (fun b p e1 e2 hb hp => absurd (show twoIn en.length i x by omega) g1) (fun b p e1 e2 hb hp => absurd (show twoIn en.length i x by omega) g1) (fun b p e1 e2 hb hp => absurd (show twoIn en.length i x by omega) g1)
  · intro g1 g3
    refine tk_ex rfl rfl ?_
    iterate 1 (refine tr_mv rfl (fun _ => rfl) ?_)
    refine tr_ri rfl rfl ?_
    refine ⟨2, rfl, ?_⟩
    obtain ⟨m1, m2, mT, m4, mH, mE, mC, m8, m9⟩ := id hm
    exact s_287 (N := 0) he mE hok.rfs hi hx hy (fun g => absurd g1 g) (fun _ _ => ansE0B hok hc hm 2 (by decide)) (fun b p e1 e2 hb hp n => absurd (show b = p by omega) n) (fun b p e1 e2 hb hp n => absurd (show b = p by omega) n) (fun b p e1 e2 hb hp n => absurd (show b = p by omega) n)
  · intro b p e1 e2 hb hp hn hy0 g1 g3
    refine tk_ex rfl rfl ?_
    iterate 1 (refine tr_mv rfl (fun _ => rfl) ?_)
    refine tr_ri rfl rfl ?_
    refine ⟨3, rfl, ?_⟩
    obtain ⟨m1, m2, mT, m4, mH, mE, mC, m8, m9⟩ := id hm
    refine s_287 (N := 0) he mE hok.rfs hi hx hy (fun g => absurd (show twoIn en.length i x by omega) g) (fun _ g => absurd (show b = p by omega) hn) (fun _ _ _ _ _ _ _ _ _ _ => ansE0B hok hc hm 3 (by decide)) (fun b2 p2 f1 f2 hb2 hp2 n2 y1 => absurd (show (0 : Int) = 1 by omega) (by decide)) (fun b2 p2 f1 f2 hb2 hp2 n2 y1 g => ?_)
    cases (show b2 = b by omega)
    cases (show p2 = p by omega)
    exact absurd g (fun c => c.elim g1 g3)
  · intro b p e1 e2 hb hp hn hy1
    obtain ⟨q4, q5, q6, q7, q8⟩ := cE.2.2 b (by omega)
    obtain ⟨r1, r2⟩ := hok.rfs (en.getD b enD) (enD_mem hb)
    obtain ⟨w, hw⟩ : ∃ w : EnT, w = (enT (en.getD b enD), enP (en.getD b enD), enS (en.getD b enD), enK (en.getD b enD), enA (en.getD b enD), enX (en.getD b enD), enO (en.getD b enD) ||| 2 ^ p, enL (en.getD b enD), enM (en.getD b enD)) := ⟨_, rfl⟩
    have wX : enX w = enX (en.getD b enD) := by rw [hw]
    have wO : enO w = enO (en.getD b enD) ||| 2 ^ p := by rw [hw]
    have hw2 : w = (enT (en.getD b enD), enP (en.getD b enD), enS (en.getD b enD), enK (en.getD b enD), enA (en.getD b enD), enX w, enO w, enL (en.getD b enD), enM (en.getD b enD)) := by rw [wX, wO]; exact hw
    have hok2 := hok.enSet (w := w) hb (by rw [hw]; exact ⟨rfl, rfl, rfl, rfl, rfl⟩) (by rw [wX, wO]; exact ⟨r1, Nat.or_lt_two_pow r2 (Nat.pow_lt_pow_right (by omega) hp)⟩) (by rw [hw]; exact hok.lcs (en.getD b enD) (enD_mem hb))
    have hc2 := seeC (v := ((enO (en.getD b enD) ||| 2 ^ p : Nat) : Int)) hok hc hb (q9 := 8) (Or.inr rfl) hw2 (by rw [wX]; exact (setF_ne _ _ (by omega)).trans q6) (by rw [wO]; exact setF_same ..)
    have hm3 := mAll.out (v := b2 (¬ enO (en.getD b enD) / 2 ^ p % 2 = 1)) hm (σ' := setF σ (360 + 5 * b) 8 ((enO (en.getD b enD) ||| 2 ^ p : Nat) : Int)) (fun q l g => setF_ne _ _ (by omega))
    have hc3 := cAll.out (v := b2 (¬ enO (en.getD b enD) / 2 ^ p % 2 = 1)) hc2 hok2.lens.1 hok2.lens.2
    refine wbool342 (b := b2 (¬ enO (en.getD b enD) / 2 ^ p % 2 = 1)) (b2_in _) ?_
    refine ⟨0, rfl, ?_⟩
    have hv9 := setF_same (setF σ (360 + 5 * b) 8 ((enO (en.getD b enD) ||| 2 ^ p : Nat) : Int)) 533 0 (b2 (¬ enO (en.getD b enD) / 2 ^ p % 2 = 1))
    generalize setF (setF σ (360 + 5 * b) 8 ((enO (en.getD b enD) ||| 2 ^ p : Nat) : Int)) 533 0 (b2 (¬ enO (en.getD b enD) / 2 ^ p % 2 = 1)) = S9 at *
    obtain ⟨m1, m2, mT, m4, mH, mE, mC, m8, m9⟩ := id hm3
    refine s_287 (N := 0) he mE hok.rfs hi hx hy (fun g => absurd (show twoIn en.length i x by omega) g) (fun _ g => absurd (show b = p by omega) hn) (fun b2 p2 f1 f2 hb2 hp2 n2 y1 => absurd (show (0 : Int) = 1 by omega) (by decide)) (fun b2 p2 f1 f2 hb2 hp2 n2 y1 => ?_) (fun b2 p2 f1 f2 hb2 hp2 n2 y1 => absurd (show (0 : Int) = 1 by omega) (by decide))
    cases (show b2 = b by omega)
    cases (show p2 = p by omega)
    obtain ⟨o9, z9, k9⟩ := seeM (v := ((enO (en.getD b enD) ||| 2 ^ p : Nat) : Int)) hok hm3 hb (q9 := 521) (Or.inr rfl) hw2 (by rw [wX]; exact (setF_ne _ _ (by omega)).trans ((setF_ne _ _ (by omega)).trans (mE.2.1 b hb).2.2.2)) (by rw [wO]; exact setF_same ..)
    exact ansUB hok2 hc3 k9 (b2_in _) hv9 z9 o9 (fun q j g => by omega)
  · intro b p e1 e2 hb hp hn hy0 g1
    obtain ⟨q4, q5, q6, q7, q8⟩ := cE.2.2 b (by omega)
    obtain ⟨r1, r2⟩ := hok.rfs (en.getD b enD) (enD_mem hb)
    obtain ⟨w, hw⟩ : ∃ w : EnT, w = (enT (en.getD b enD), enP (en.getD b enD), enS (en.getD b enD), enK (en.getD b enD), enA (en.getD b enD), (p : Int), enO (en.getD b enD), enL (en.getD b enD), enM (en.getD b enD)) := ⟨_, rfl⟩
    have wX : enX w = (p : Int) := by rw [hw]
    have wO : enO w = enO (en.getD b enD) := by rw [hw]
    have hw2 : w = (enT (en.getD b enD), enP (en.getD b enD), enS (en.getD b enD), enK (en.getD b enD), enA (en.getD b enD), enX w, enO w, enL (en.getD b enD), enM (en.getD b enD)) := by rw [wX, wO]; exact hw
    have hok2 := hok.enSet (w := w) hb (by rw [hw]; exact ⟨rfl, rfl, rfl, rfl, rfl⟩) (by rw [wX, wO]; exact ⟨Or.inr (by omega), r2⟩) (by rw [hw]; exact hok.lcs (en.getD b enD) (enD_mem hb))
    have hc2 := seeC (v := (p : Int)) hok hc hb (q9 := 7) (Or.inl rfl) hw2 (by rw [wX]; exact setF_same ..) (by rw [wO]; exact (setF_ne _ _ (by omega)).trans q7)
    have hm3 := mAll.out (v := b2 (enX (en.getD b enD) = -1)) hm (σ' := setF σ (360 + 5 * b) 7 (p : Int)) (fun q l g => setF_ne _ _ (by omega))
    have hc3 := cAll.out (v := b2 (enX (en.getD b enD) = -1)) hc2 hok2.lens.1 hok2.lens.2
    refine wbool342 (b := b2 (enX (en.getD b enD) = -1)) (b2_in _) ?_
    refine ⟨0, rfl, ?_⟩
    have hv9 := setF_same (setF σ (360 + 5 * b) 7 (p : Int)) 533 0 (b2 (enX (en.getD b enD) = -1))
    generalize setF (setF σ (360 + 5 * b) 7 (p : Int)) 533 0 (b2 (enX (en.getD b enD) = -1)) = S9 at *
    obtain ⟨m1, m2, mT, m4, mH, mE, mC, m8, m9⟩ := id hm3
    refine s_287 (N := 0) he mE hok.rfs hi hx hy (fun g => absurd (show twoIn en.length i x by omega) g) (fun _ g => absurd (show b = p by omega) hn) (fun b2 p2 f1 f2 hb2 hp2 n2 y1 g4 g5 => ?_) (fun b2 p2 f1 f2 hb2 hp2 n2 y1 => absurd (show (0 : Int) = 1 by omega) (by decide)) (fun b2 p2 f1 f2 hb2 hp2 n2 y1 g4 => ?_)
    · cases (show b2 = b by omega)
      cases (show p2 = p by omega)
      exact absurd g1 (fun c => c.elim g4 g5)
    · cases (show b2 = b by omega)
      cases (show p2 = p by omega)
      obtain ⟨o9, z9, k9⟩ := seeM (v := (p : Int)) hok hm3 hb (q9 := 520) (Or.inl rfl) hw2 (by rw [wX]; exact setF_same ..) (by rw [wO]; exact (setF_ne _ _ (by omega)).trans ((setF_ne _ _ (by omega)).trans (mE.2.2 b (by omega)).2.2.1))
      exact ansUB hok2 hc3 k9 (b2_in _) hv9 z9 o9 (fun q j g => by omega)
end SEES
