/-! Locators and references told: both sides. -/
section LOCS
variable {Ls N k pc n a : Nat} {L : mLs} {σ σ' σ1 σ2 : Sg} {post : tP} {i x y z v : Int} {B M : Int → Int} {ds an dA : List Int} {R : Nat → Prop} {C : Nat → Nat → Prop} {ws rs PA PB : List Int} {tx : List (List Int)} {D3 : Nat → TD} {o3 : Nat → Nat → Int} {R3 : Nat → RuT} {hd : Nat → Int} {en : List EnT} {bf : Nat → List Nat} {rd : Nat → List Int} {hh ww : Int} {X : Nat}
theorem ansKB (hok : okSt B M ds an tx D3 o3 R3 hd en bf ws rs rd PA PB hh ww) (hc : cAll σ1 B M ds an tx D3 o3 R3 hd en bf ws rs rd PA PB hh ww) (hm : mAll σ1 B M ds an tx D3 o3 R3 hd en bf ws rs rd PA PB hh ww) {b : Int} (hb : b = 0 ∨ b = 1) (hv : σ1.2 533 0 = b) : ∃ b' : Int, (.inl (some (mI b)) : Option mV ⊕ Nat) = .inl (some (mI b')) ∧ (b' = 0 ∨ b' = 1) ∧ (setF σ1 480 0 0).2 480 0 = 0 ∧ (m32 0 = 0 → (setF σ1 480 0 0).2 533 0 = b') ∧ StR (setF σ1 480 0 0) := by
  obtain ⟨k1, k2⟩ := ansM hok hc hm (only_0 σ1 0) (fun _ _ g => c0_sc g)
  exact ⟨b, rfl, hb, setF_same .., fun _ => k2.trans hv, k1⟩
theorem mseg_snoc {q off : Nat} {l : List Int} (h : mseg σ q off l) (ho : ∀ j, off ≤ j → j < off + l.length → σ'.2 q j = σ.2 q j) (hv : σ'.2 q (off + l.length) = v) : mseg σ' q off (l ++ [v]) := fun j hj => by
  rw [List.length_append, List.length_singleton] at hj
  rw [snoc_get]
  by_cases c : j < l.length
  · rw [if_pos c, ho _ (by omega) (by omega)]
    exact h j c
  · have e : j = l.length := by omega
    rw [if_neg c, if_pos e, e]
    exact hv
theorem okSt.enSet (hok : okSt B M ds an tx D3 o3 R3 hd en bf ws rs rd PA PB hh ww) (ha : a < en.length) {w : EnT} (hw : enT w = enT (en.getD a enD) ∧ enP w = enP (en.getD a enD) ∧ enS w = enS (en.getD a enD) ∧ enK w = enK (en.getD a enD) ∧ enA w = enA (en.getD a enD)) (h1 : (enX w = -1 ∨ (0 ≤ enX w ∧ enX w < (en.length : Int))) ∧ enO w < 2 ^ en.length) (h2 : okLoc (enL w) (enM w)) : okSt B M ds an tx D3 o3 R3 hd (en.set a w) bf ws rs rd PA PB hh ww := by
  have hs := smE_set ha hw
  have hr : okRf (en.set a w) := okRf_set hok.rfs h1
  exact ⟨hok.1, hok.2.1, hok.2.2.1, hok.2.2.2.1, hok.rus, okEn_same hok.ens hs hr, okLoc_set hok.lcs h2, hr, fun Y hY => by rw [ordE_same hs]; exact hok.bfs Y hY, hok.cos, hok.pns, hok.hws⟩
theorem cG4.same {en' : List EnT} (h : cG4 σ tx en D3 o3 R3 bf) (hs : smE en en') : cG4 σ tx en' D3 o3 R3 bf := ⟨h.1.same hs, h.2⟩
theorem op_11 (h : StR σ) (hi : in32 i) (hx : in32 x) (hy : in32 y) : Tr Ls 1 341 0 [some (mP (some 2)), some (mI i), some (mI x), some (mI y), some (mP (some 533)), none] [] σ (jopB Ls 286 [some (mP (some 480)), some (mI i), some (mI x), some (mI y), none, none, none]) := by
  obtain ⟨B, M, ds, an, tx, D3, o3, R3, hd, en, bf, ws, rs, rd, PA, PB, hh, ww, hok, hc, hm⟩ := h
  obtain ⟨hl, he⟩ := hok.lens
  obtain ⟨c1, c2, cT, c4, cH, cE, cC, c8, c9⟩ := id hc
  have hiff : ∀ b : Nat, b < en.length → ((1 ≤ x ∧ x ≤ 999) ∧ 0 ≤ y ∧ y ≤ 2) → (1000 * rk y + x ∈ enL (en.getD b enD) ↔ 1000 * y + x ∈ enM (en.getD b enD)) := fun b hb hxy => okLoc_iff (hok.lcs _ (enD_mem hb)) hxy.1 hxy.2
  have hlen : ∀ b : Nat, b < en.length → (enM (en.getD b enD)).length = (enL (en.getD b enD)).length := fun b hb => (hok.lcs _ (enD_mem hb)).len
  iterate 6 (refine tr_mv rfl (fun _ => rfl) ?_)
  refine tr_vc1 (q := 2) rfl ⟨by decide, by decide +kernel⟩ rfl rfl rfl (s_139 (N := 0) he cE hok.lcs hi hx hy ?_ ?_ ?_ ?_ ?_)
  · intro g1
    refine tk_ex rfl rfl ?_
    iterate 1 (refine tr_mv rfl (fun _ => rfl) ?_)
    refine tr_ri rfl rfl ?_
    refine ⟨1, rfl, ?_⟩
    obtain ⟨m1, m2, mT, m4, mH, mE, mC, m8, m9⟩ := id hm
    refine s_286 (N := 0) he mE hok.lcs hi hx hy (fun _ => ansE0B hok hc hm 1 (by decide)) (fun g => absurd g g1) (fun b e hb => absurd (show 0 ≤ i ∧ i < (en.length : Int) by omega) g1) (fun b e hb => absurd (show 0 ≤ i ∧ i < (en.length : Int) by omega) g1) (fun b e hb => absurd (show 0 ≤ i ∧ i < (en.length : Int) by omega) g1)
  · intro g1 g3
    refine tk_ex rfl rfl ?_
    iterate 1 (refine tr_mv rfl (fun _ => rfl) ?_)
    refine tr_ri rfl rfl ?_
    refine ⟨2, rfl, ?_⟩
    obtain ⟨m1, m2, mT, m4, mH, mE, mC, m8, m9⟩ := id hm
    exact s_286 (N := 0) he mE hok.lcs hi hx hy (fun g => absurd g1 g) (fun _ _ => ansE0B hok hc hm 2 (by decide)) (fun b e hb g => absurd g g3) (fun b e hb g => absurd g g3) (fun b e hb g => absurd g g3)
  · intro b e1 hb g1 g3 g5
    refine tk_ex rfl rfl ?_
    iterate 1 (refine tr_mv rfl (fun _ => rfl) ?_)
    refine tr_ri rfl rfl ?_
    refine ⟨3, rfl, ?_⟩
    obtain ⟨m1, m2, mT, m4, mH, mE, mC, m8, m9⟩ := id hm
    refine s_286 (N := 0) he mE hok.lcs hi hx hy (fun g => absurd (show 0 ≤ i ∧ i < (en.length : Int) by omega) g) (fun _ g => absurd g1 g) (fun _ _ _ _ _ _ => ansE0B hok hc hm 3 (by decide)) (fun b2 e2 hb2 _ g => ?_) (fun b2 e2 hb2 _ _ g => ?_)
    · cases (show b2 = b by omega)
      exact absurd ((hiff b hb g1).mpr g) g3
    · cases (show b2 = b by omega)
      have := hlen b hb
      exfalso
      omega
  · intro b e1 hb g1 g3
    have hm3 := mAll.out (v := 0) hm (σ' := σ) (fun q l g => rfl)
    have hc3 := cAll.out (v := 0) hc hl he
    refine wbool341 (b := 0) (Or.inl rfl) ?_
    refine ⟨0, rfl, ?_⟩
    obtain ⟨m1, m2, mT, m4, mH, mE, mC, m8, m9⟩ := id hm3
    refine s_286 (N := 0) he mE hok.lcs hi hx hy (fun g => absurd (show 0 ≤ i ∧ i < (en.length : Int) by omega) g) (fun _ g => absurd g1 g) (fun b2 e2 hb2 _ g _ => ?_) (fun b2 e2 hb2 _ g => ansKB hok hc3 hm3 (Or.inl rfl) (setF_same ..)) (fun b2 e2 hb2 _ g _ => ?_)
    · cases (show b2 = b by omega)
      exact absurd ((hiff b hb g1).mp g3) g
    · cases (show b2 = b by omega)
      exact absurd ((hiff b hb g1).mp g3) g
  · intro b L' e1 hb g1 g3 g5 w1 w2 w3
    have hln := hlen b hb
    have hnm : 1000 * y + x ∉ enM (en.getD b enD) := fun c => g3 ((hiff b hb g1).mpr c)
    have hloc : okLoc L' (enM (en.getD b enD) ++ [1000 * y + x]) := okLoc_add (hok.lcs _ (enD_mem hb)) g1.1 g1.2 hnm w1 w2 (by omega)
    obtain ⟨w, hw⟩ : ∃ w : EnT, w = (enT (en.getD b enD), enP (en.getD b enD), enS (en.getD b enD), enK (en.getD b enD), enA (en.getD b enD), enX (en.getD b enD), enO (en.getD b enD), L', enM (en.getD b enD) ++ [1000 * y + x]) := ⟨_, rfl⟩
    have hok2 : okSt B M ds an tx D3 o3 R3 hd (en.set b w) bf ws rs rd PA PB hh ww := hok.enSet hb (by rw [hw]; exact ⟨rfl, rfl, rfl, rfl, rfl⟩) (by rw [hw]; exact hok.rfs (en.getD b enD) (enD_mem hb)) (by rw [hw]; exact hloc)
    have hs : smE en (en.set b w) := smE_set hb (by rw [hw]; exact ⟨rfl, rfl, rfl, rfl, rfl⟩)
    have hch : chg (fun r => r = (360 + 5 * b) + 1) noC σ (setR σ ((360 + 5 * b) + 1) L') := chg.setR chg.rf rfl
    obtain ⟨q1, q2, q3⟩ := cE.2.1 b hb
    obtain ⟨q4, q5, q6, q7, q8⟩ := cE.2.2 b (by omega)
    have k1 : cEn (setR σ ((360 + 5 * b) + 1) L') (en.set b w) := cE.set hb he rfl (fun j hj e => ⟨fun _ => rfl, setR_ne _ _ (by omega)⟩) (by rw [hw]; exact q1) (by rw [hw]; exact q2) (by rw [hw]; exact q3) (by rw [hw]; exact q4) (by rw [hw]; exact q5) (by rw [hw]; exact q6) (by rw [hw]; exact q7) (by rw [hw]; exact setR_same ..)
    have hc2 : cAll (setR σ ((360 + 5 * b) + 1) L') B M ds an tx D3 o3 R3 hd (en.set b w) bf ws rs rd PA PB hh ww := hc.ens hl hch (fun r g => by omega) (fun q j g => g.elim) k1 ((c4.of hch (fun r g => by omega) (fun q j g => g.elim)).same hs) ((hch.1 104 (by omega)).trans c8.1) ((hch.1 106 (by omega)).trans c8.2)
    have hm3 := mAll.out (v := 1) hm (σ' := setR σ ((360 + 5 * b) + 1) L') (fun q l g => rfl)
    have hc3 := cAll.out (v := 1) hc2 hok2.lens.1 hok2.lens.2
    refine wbool341 (b := 1) (Or.inr rfl) ?_
    refine ⟨0, rfl, ?_⟩
    have hv9 : (setF (setR σ ((360 + 5 * b) + 1) L') 533 0 1).2 533 0 = 1 := setF_same ..
    generalize setF (setR σ ((360 + 5 * b) + 1) L') 533 0 1 = S9 at *
    obtain ⟨m1, m2, mT, m4, mH, mE, mC, m8, m9⟩ := id hm3
    refine s_286 (N := 0) he mE hok.lcs hi hx hy (fun g => absurd (show 0 ≤ i ∧ i < (en.length : Int) by omega) g) (fun _ g => absurd g1 g) (fun b2 e2 hb2 _ _ g => ?_) (fun b2 e2 hb2 _ g => ?_) (fun b2 e2 hb2 _ _ g => ?_)
    · cases (show b2 = b by omega)
      exfalso
      omega
    · cases (show b2 = b by omega)
      exact absurd g hnm
    · cases (show b2 = b by omega)
      have o9 : only (fun q j => q = 518 ∨ q = 519 ∨ (q = 480 ∧ j = 0)) S9 (setF (setF (setF S9 480 0 0) 518 (10 * b + (enM (en.getD b enD)).length) (1000 * y + x)) 519 b (((enM (en.getD b enD)).length : Int) + 1)) := by
        have k2 : only (fun q j => q = 518 ∨ q = 519 ∨ (q = 480 ∧ j = 0)) S9 (setF S9 480 0 0) := only.setF only.rf (Or.inr (Or.inr ⟨rfl, rfl⟩))
        have k3 : only (fun q j => q = 518 ∨ q = 519 ∨ (q = 480 ∧ j = 0)) S9 (setF (setF S9 480 0 0) 518 (10 * b + (enM (en.getD b enD)).length) (1000 * y + x)) := only.setF k2 (Or.inl rfl)
        exact only.setF k3 (Or.inr (Or.inl rfl))
      have z9 : (setF (setF (setF S9 480 0 0) 518 (10 * b + (enM (en.getD b enD)).length) (1000 * y + x)) 519 b (((enM (en.getD b enD)).length : Int) + 1)).2 480 0 = 0 := (setF_ne _ _ (by omega)).trans ((setF_ne _ _ (by omega)).trans (setF_same ..))
      have v9 : (setF (setF (setF S9 480 0 0) 518 (10 * b + (enM (en.getD b enD)).length) (1000 * y + x)) 519 b (((enM (en.getD b enD)).length : Int) + 1)).2 519 b = ((enM (en.getD b enD)).length : Int) + 1 := setF_same ..
      have u9 : (setF (setF (setF S9 480 0 0) 518 (10 * b + (enM (en.getD b enD)).length) (1000 * y + x)) 519 b (((enM (en.getD b enD)).length : Int) + 1)).2 518 (10 * b + (enM (en.getD b enD)).length) = 1000 * y + x := (setF_ne _ _ (by omega)).trans (setF_same ..)
      have n9 : ∀ j, j ≠ b → (setF (setF (setF S9 480 0 0) 518 (10 * b + (enM (en.getD b enD)).length) (1000 * y + x)) 519 b (((enM (en.getD b enD)).length : Int) + 1)).2 519 j = S9.2 519 j := fun j hj => (setF_ne _ _ (by omega)).trans ((setF_ne _ _ (by omega)).trans (setF_ne _ _ (by omega)))
      have s9 : ∀ j, j ≠ 10 * b + (enM (en.getD b enD)).length → (setF (setF (setF S9 480 0 0) 518 (10 * b + (enM (en.getD b enD)).length) (1000 * y + x)) 519 b (((enM (en.getD b enD)).length : Int) + 1)).2 518 j = S9.2 518 j := fun j hj => (setF_ne _ _ (by omega)).trans ((setF_ne _ _ (by omega)).trans (setF_ne _ _ (by omega)))
      generalize setF (setF (setF S9 480 0 0) 518 (10 * b + (enM (en.getD b enD)).length) (1000 * y + x)) 519 b (((enM (en.getD b enD)).length : Int) + 1) = S8 at *
      obtain ⟨p1, p2, p3, p4⟩ := mE.2.1 b hb
      obtain ⟨p5, p6, p7, p8, p9⟩ := mE.2.2 b (by omega)
      have k5 : mEn S8 (en.set b w) := mE.set hb he (o9.2 _ _ (by omega)) (fun j hj e => ⟨o9.2 _ _ (by omega), o9.2 _ _ (by omega), o9.2 _ _ (by omega), o9.2 _ _ (by omega), o9.2 _ _ (by omega), n9 j e, o9.2 _ _ (by omega), o9.2 _ _ (by omega), fun M' hM' hl' t ht => (s9 _ (by omega)).trans (hM' t ht)⟩) (okM10 hok) (by rw [hw]; exact (o9.2 _ _ (by omega)).trans p2) (by rw [hw]; exact (o9.2 _ _ (by omega)).trans p1) (by rw [hw]; exact (o9.2 _ _ (by omega)).trans p3) (by rw [hw]; exact (o9.2 _ _ (by omega)).trans p5) (by rw [hw]; exact (o9.2 _ _ (by omega)).trans p6) (by rw [hw]; exact (o9.2 _ _ (by omega)).trans p4) (by rw [hw]; exact (o9.2 _ _ (by omega)).trans p7) (by
        rw [hw, v9]
        show _ = (((enM (en.getD b enD) ++ [1000 * y + x]).length : Nat) : Int)
        rw [List.length_append, List.length_singleton]
        omega) (by
        rw [hw]
        exact mseg_snoc p9 (fun t h1 h2 => s9 t (by omega)) u9)
      exact ansUB hok2 hc3 (hm3.ens o9 (fun q j g => by unfold scM; omega) k5 (m8.of o9 (fun q j g g2 => by omega))) (Or.inr rfl) hv9 z9 o9 (fun q j g => by omega)
end LOCS
