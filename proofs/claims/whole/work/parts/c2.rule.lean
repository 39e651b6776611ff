/-! Rules, tailorings adopted, options: both sides. -/
section RULE
variable {Ls N k pc n : Nat} {σ σ' σ1 σ2 : Sg} {i x y z v : Int} {B M : Int → Int} {ds an dA : List Int} {R : Nat → Prop} {C : Nat → Nat → Prop} {ws rs PA PB : List Int} {tx : List (List Int)} {D3 : Nat → TD} {o3 : Nat → Nat → Int} {R3 : Nat → RuT} {hd : Nat → Int} {en : List EnT} {bf : Nat → List Nat} {rd : Nat → List Int} {hh ww : Int} {X : Nat} {D' : TD} {o' : Nat → Int} {R' : RuT}
/-- a tailoring told anew, its order kept for what moved -/
theorem okSt.tl (hok : okSt B M ds an tx D3 o3 R3 hd en bf ws rs rd PA PB hh ww) (hX : X < 3) (hd2 : ds = [] ∨ True) (hr : okRu D' R') : okSt B M ds an tx (upf D3 X D') (upf o3 X o') (upf R3 X R') hd en (upf bf X (ordE tx en (D3 X) (o3 X) X)) ws rs rd PA PB hh ww := by
  refine ⟨hok.1, hok.2.1, hok.2.2.1, hok.2.2.2.1, fun Y hY => ?_, hok.ens, hok.lcs, hok.rfs, fun Y hY => ?_, hok.cos, hok.pns, hok.hws⟩
  · by_cases e : Y = X
    · rw [e, upf_same, upf_same]
      exact hr
    · rw [upf_ne _ _ e, upf_ne _ _ e]
      exact hok.rus Y hY
  · by_cases e : Y = X
    · rw [e, upf_same, upf_same, upf_same]
      refine ⟨ordE_le0 hok.ens, fun b hb => ?_⟩
      have := ordE_sub hok.ens X hb
      have := hok.lens.2
      omega
    · rw [upf_ne _ _ e, upf_ne _ _ e, upf_ne _ _ e]
      exact hok.bfs Y hY
theorem okSt.noDs (hok : okSt B M ds an tx D3 o3 R3 hd en bf ws rs rd PA PB hh ww) : okSt B M [] [] tx D3 o3 R3 hd en bf ws rs rd PA PB hh ww := ⟨hok.1, ⟨Nat.zero_le _, fun s hs => (List.not_mem_nil hs).elim⟩, ⟨Nat.zero_le _, fun s hs => (List.not_mem_nil hs).elim⟩, hok.2.2.2⟩
theorem okSt.bl (hok : okSt B M ds an tx D3 o3 R3 hd en bf ws rs rd PA PB hh ww) : ∀ Y, Y < 3 → (bf Y).length ≤ 24 := fun Y hY => Nat.le_trans (hok.bfs Y hY).1 (ordE_len hok.ens Y)
theorem upf_id {α : Type} (f : Nat → α) (X : Nat) : upf f X (f X) = f := by
  funext i
  unfold upf
  split
  · rename_i e
    rw [e]
  · rfl
theorem cOd_in2 {q j : Nat} (g : cOd q j) : q = 489 ∨ (504 ≤ q ∧ q ≤ 511) ∨ q = 522 ∨ (q = 480 ∧ (j = 13 ∨ j = 32 ∨ j = 34 ∨ j = 36 ∨ j = 38 ∨ j = 40 ∨ j = 53)) := cOd_in g
def rulI (X q j : Nat) : Prop := q = 489 ∨ (504 ≤ q ∧ q ≤ 511) ∨ q = 522 ∨ q = 525 ∨ (q = 480 ∧ (j = 13 ∨ j = 32 ∨ j = 34 ∨ j = 36 ∨ j = 38 ∨ j = 40 ∨ j = 53 ∨ j = 57 ∨ j = 0 ∨ j = 4 ∨ j = 6)) ∨ (q = 523 ∧ 24 * X ≤ j ∧ j < 24 * X + 24) ∨ (q = 524 ∧ j = X)
theorem cRm_in {q j : Nat} (g : cRm X q j) : rulI X q j := by
  unfold rulI
  rcases g with g | g | g
  · have := cOd_in2 g
    omega
  · omega
  · omega
theorem cRul_in {q j : Nat} (g : cRul X q j) : rulI X q j ∨ cTl X q j := by
  rcases g with g | g | g | g
  · exact Or.inl (cRm_in g)
  · exact Or.inr g
  · have := cCz_in g
    refine Or.inl ?_
    unfold rulI
    omega
  · refine Or.inl ?_
    unfold rulI
    omega
theorem rulI_1 {q j : Nat} (g : rulI X q j) (h : (490 ≤ q ∧ q ≤ 503) ∨ q = 523 ∨ q = 524) : (q = 523 ∧ 24 * X ≤ j ∧ j < 24 * X + 24) ∨ (q = 524 ∧ j = X) := by
  unfold rulI at g
  omega
theorem cTl_q {T q j : Nat} (g : cTl T q j) : 490 ≤ q ∧ q ≤ 502 := by omega
theorem rulI_2 {q j : Nat} (g : rulI X q j ∨ cTl X q j) : scM q j ∨ q = 483 ∨ q = 484 ∨ (q = 480 ∧ (j = 4 ∨ j = 6)) ∨ (490 ≤ q ∧ q ≤ 503) ∨ q = 523 ∨ q = 524 := by
  rcases g with g | g
  · unfold rulI at g
    unfold scM
    omega
  · have := cTl_q g
    omega
theorem rulI_3 {q j : Nat} (g : rulI X q j ∨ cTl X q j) : 480 ≤ q ∧ q ≠ 533 ∧ q ≠ 503 := by
  rcases g with g | g
  · unfold rulI at g
    omega
  · have := cTl_q g
    omega
theorem op_5 (h : StR σ) (hi : in32 i) (hx : in32 x) : Tr Ls 1 335 0 [some (mP (some 2)), some (mI i), some (mI x), some (mP (some 533)), none] [] σ (jop Ls 248 [some (mP (some 480)), some (mI i), some (mI x), none, none, none, none]) := by
  obtain ⟨B, M, ds, an, tx, D3, o3, R3, hd, en, bf, ws, rs, rd, PA, PB, hh, ww, hok, hc, hm⟩ := h
  obtain ⟨hl, he⟩ := hok.lens
  have hE := hok.ens
  have hT : okTx tx := hok.2.2.2.1
  have hru := hok.rus
  obtain ⟨ha2, ha40⟩ := hok.2.2.1
  obtain ⟨c1, c2, cT, c4, cH, cE, cC, c8, c9⟩ := id hc
  have hd2 := okDr_apA hok.1.1 hok.2.1.2 hok.2.1.1
  iterate 5 (refine tr_mv rfl (fun _ => rfl) ?_)
  refine tr_vc1 (q := 2) rfl ⟨by decide, by decide +kernel⟩ rfl rfl rfl (s_133 (N := 0) hT hE cT cE c4.1 (fun X hX => ⟨c4.2.1 X hX, hru X hX⟩) (c1.dr c2.1 hok.1) hd2 c2.2 ha2 ha40 hi hx ?_ ?_ ?_ ?_)
  · intro g1
    refine tk_ex rfl rfl ?_
    iterate 1 (refine tr_mv rfl (fun _ => rfl) ?_)
    refine tr_ri rfl rfl ?_
    refine ⟨1, rfl, ?_⟩
    obtain ⟨m1, m2, mT, m4, mH, mE, mC, m8, m9⟩ := id hm
    refine s_248 (N := 0) hT hE mT mE m4.1 (fun X hX => ⟨m4.2.1 X hX, hru X hX⟩) (m1.dr m2.1 hok.1 hok.2.1.2) hd2 m2.2 ha2 ha40 hi hx ?_ ?_ ?_ ?_
    · intro σ2 g2 z9 o9
      exact ansE hok hc hm 0 1 (by decide) o9 (fun _ _ g => cCz_sc g) z9
    · intro σ2 g2
      exact absurd g2 g1
    · intro X2 σ2 e2 h2
      exfalso
      omega
    · intro X2 σ2 e2 h2
      exfalso
      omega
  · intro g1 g3
    refine tk_ex rfl rfl ?_
    iterate 1 (refine tr_mv rfl (fun _ => rfl) ?_)
    refine tr_ri rfl rfl ?_
    refine ⟨2, rfl, ?_⟩
    obtain ⟨m1, m2, mT, m4, mH, mE, mC, m8, m9⟩ := id hm
    refine s_248 (N := 0) hT hE mT mE m4.1 (fun X hX => ⟨m4.2.1 X hX, hru X hX⟩) (m1.dr m2.1 hok.1 hok.2.1.2) hd2 m2.2 ha2 ha40 hi hx ?_ ?_ ?_ ?_
    · intro σ2 g2
      exact absurd g1 g2
    · intro σ2 g2 g4 z9 o9
      exact ansE hok hc hm 0 2 (by decide) o9 (fun _ _ g => cCz_sc g) z9
    · intro X2 σ2 e2 h2 g4
      exact absurd g4 g3
    · intro X2 σ2 e2 h2 g4
      exact absurd g4 g3
  · intro X σ' e1 hX g1 g3 ch
    have hc2 : cAll σ' B M ds an tx D3 o3 R3 hd en bf ws rs rd PA PB hh ww := hc.of hl he ch (fun a g => by unfold scR; omega) (fun _ _ g => noC_sc g)
    have hm2 : mAll σ' B M ds an tx D3 o3 R3 hd en bf ws rs rd PA PB hh ww := hm.ofc (fun q i g _ => ch.2 q i (fun g => g))
    refine tk_ex rfl rfl ?_
    iterate 1 (refine tr_mv rfl (fun _ => rfl) ?_)
    refine tr_ri rfl rfl ?_
    refine ⟨3, rfl, ?_⟩
    obtain ⟨m1, m2, mT, m4, mH, mE, mC, m8, m9⟩ := id hm2
    refine s_248 (N := 0) hT hE mT mE m4.1 (fun X hX => ⟨m4.2.1 X hX, hru X hX⟩) (m1.dr m2.1 hok.1 hok.2.1.2) hd2 m2.2 ha2 ha40 hi hx ?_ ?_ ?_ ?_
    · intro σ2 g2
      exfalso
      omega
    · intro σ2 g2 g4
      exact absurd g1 g4
    · intro X2 σ2 e2 h2 g4 g5 z9 o9
      exact ansE hok hc2 hm2 0 3 (by decide) o9 (fun _ _ g => cCz_sc g) z9
    · intro X2 σ2 e2 h2 g4 g5
      cases (show X2 = X by omega)
      exact absurd g5 g3
  · intro X σ' e1 hX g1 g3 k2 k4 f6 f8 k5 k6 ch
    have hq := canTell_iff.mp g3
    have han : okCd (cdC an) := by
      rcases cdC_ok ha40 with k | k
      · exact absurd k hq.2.1
      · exact k
    have hit : okCd (cdC (apA B M ds)) := by
      rcases cdC_ok hd2.2.2.1 with k | k
      · have k9 := hq.2.2.2.1.1
        rw [k] at k9
        exact absurd k9 (by decide +kernel)
      · exact k
    obtain ⟨w1, w2, w3, w4, w5⟩ := okRu_tell (c4.1 X hX).1 (hru X hX) g1 hq han hit
    have hok2 := (hok.noDs).tl (o' := o3 X) hX (Or.inr trivial) w5
    have h4 : cG4 σ' tx en (upf D3 X (tellD (D3 X) x (cdC an) (cdC (apA B M ds)))) (upf o3 X (o3 X)) (upf R3 X (R3 X ++ [(x, cdC an, cdC (apA B M ds))])) (upf bf X (ordE tx en (D3 X) (o3 X) X)) := c4.upX hX ch (fun a g g2 => by omega) (fun q j g g2 => by omega) w4 k2 ((c4.1 X hX).2.2.1.of ch (fun j g => by omega)) k4 k5 k6
    have hc2 := hc.tl hl he ch (fun a g => by unfold scR; omega) (fun q j g => by unfold scC; omega) f6 f8 h4
    iterate 1 (refine tr_mv rfl (fun _ => rfl) ?_)
    refine tr_ls rfl ?_
    iterate 2 (refine tr_mv rfl (fun _ => rfl) ?_)
    refine tr_ri rfl rfl ?_
    refine ⟨0, rfl, ?_⟩
    have hm3 := mAll.out (v := m32 ((R3 X).length + 1 : Int)) hm (σ' := σ') (fun q j g => ch.2 q j (fun g2 => by omega))
    have hc3 := cAll.out (v := m32 ((R3 X).length + 1 : Int)) hc2 hl he
    obtain ⟨m1, m2, mT, m4, mH, mE, mC, m8, m9⟩ := id hm3
    refine s_248 (N := 0) hT hE mT mE m4.1 (fun X hX => ⟨m4.2.1 X hX, hru X hX⟩) (m1.dr m2.1 hok.1 hok.2.1.2) hd2 m2.2 ha2 ha40 hi hx ?_ ?_ ?_ ?_
    · intro σ2 g2
      exfalso
      omega
    · intro σ2 g2 g4
      exact absurd g1 g4
    · intro X2 σ2 e2 h2 g4 g5
      cases (show X2 = X by omega)
      exact absurd g3 g5
    · intro X2 σ2 e2 h2 g4 g5 t1 t2 t3 t4 t5 t6 z9 o9
      cases (show X2 = X by omega)
      have hin : ∀ q j, cRul X q j → rulI X q j ∨ cTl X q j := fun q j g => cRul_in g
      have h5 : mG4 σ2 (upf D3 X (tellD (D3 X) x (cdC an) (cdC (apA B M ds)))) (upf o3 X (o3 X)) (upf R3 X (R3 X ++ [(x, cdC an, cdC (apA B M ds))])) (upf bf X (ordE tx en (D3 X) (o3 X) X)) := m4.upX hru hok.bl o9 (fun q j g g2 => (hin q j g).elim (fun c => (rulI_1 c g2).elim (fun c => Or.inr (Or.inr (Or.inr (Or.inl c)))) (fun c => Or.inr (Or.inr (Or.inr (Or.inr c))))) Or.inl) w4 t1 ((m4.1 X hX).2.2.other o9 (fun j g1 g2 g => (rulI_3 (hin _ _ g)).2.2 rfl)) t2 ⟨t5, t6⟩
      exact ansU hok2 hc3 (hm3.tl o9 (fun q j g => rulI_2 (hin q j g)) (mDs_nil t4) (mAn_nil t3) h5) (setF_same ..) z9 o9 (fun q j g => ⟨(rulI_3 (hin q j g)).1, (rulI_3 (hin q j g)).2.1⟩)
end RULE
