/-! Tailorings adopted, options: both sides. -/
section ADOPT
variable {Ls N k pc n : Nat} {σ σ' σ1 σ2 : Sg} {i x y z v : Int} {B M : Int → Int} {ds an dA : List Int} {R : Nat → Prop} {C : Nat → Nat → Prop} {ws rs PA PB : List Int} {tx : List (List Int)} {D3 : Nat → TD} {o3 : Nat → Nat → Int} {R3 : Nat → RuT} {hd : Nat → Int} {en : List EnT} {bf : Nat → List Nat} {rd : Nat → List Int} {hh ww : Int} {X : Nat} {D' : TD} {o' : Nat → Int} {R' : RuT}
theorem mG4.keep3 (h : mG4 σ D3 o3 R3 bf) (hru : ∀ Y, Y < 3 → okRu (D3 Y) (R3 Y)) (ho : only (fun q i => cTl 3 q i ∨ (q = 480 ∧ i = 0)) σ σ') : mG4 σ' D3 o3 R3 bf := by
  obtain ⟨h1, h2, h3⟩ := h
  have hT : ∀ Y, Y < 3 → ∀ q i, (cTl 3 q i ∨ (q = 480 ∧ i = 0)) → ¬ cTl Y q i := fun Y hY q i g g2 => by
    rcases g with g | g
    · omega
    · have := cTl_q g2
      omega
  refine ⟨fun Y hY => ?_, fun Y hY => ruM.other (hru Y hY).1 (h2 Y hY) ho (hT Y hY), h3.of ho (fun q i g g2 => ?_)⟩
  · obtain ⟨y1, y2, y3⟩ := h1 Y hY
    refine ⟨y1, tlM.other y1 y2 ho (hT Y hY), y3.other ho (fun i _ _ g => ?_)⟩
    rcases g with g | g
    · have := cTl_q g
      omega
    · omega
  · rcases g with g | g
    · have := cTl_q g
      omega
    · omega
theorem cAdo_in {q j : Nat} (g : cAdo X q j) : rulI X q j ∨ cTl X q j ∨ cTl 3 q j := by
  rcases g with g | g | g | g
  · exact Or.inl (cRm_in g)
  · exact Or.inr (Or.inl g)
  · exact Or.inr (Or.inr g)
  · refine Or.inl ?_
    unfold rulI
    omega
theorem cA3_2 {q j : Nat} (g : cTl 3 q j ∨ (q = 480 ∧ j = 0)) : scM q j ∨ (490 ≤ q ∧ q ≤ 502) := by
  rcases g with g | g
  · exact Or.inr (cTl_q g)
  · exact Or.inl (c0_sc g)
theorem op_6 (h : StR σ) (hi : in32 i) (hx : in32 x) : Tr Ls 1 336 0 [some (mP (some 2)), some (mI i), some (mI x), some (mP (some 533)), none] [] σ (jop Ls 251 [some (mP (some 480)), some (mI i), some (mI x), none, none]) := by
  obtain ⟨B, M, ds, an, tx, D3, o3, R3, hd, en, bf, ws, rs, rd, PA, PB, hh, ww, hok, hc, hm⟩ := h
  obtain ⟨hl, he⟩ := hok.lens
  have hE := hok.ens
  have hT : okTx tx := hok.2.2.2.1
  have hru := hok.rus
  obtain ⟨c1, c2, cT, c4, cH, cE, cC, c8, c9⟩ := id hc
  iterate 5 (refine tr_mv rfl (fun _ => rfl) ?_)
  refine tr_vc1 (q := 2) rfl ⟨by decide, by decide +kernel⟩ rfl rfl rfl (s_134 (N := 0) hT hE cT cE c4.1 (fun X hX => ⟨c4.2.1 X hX, hru X hX⟩) hi hx ?_ ?_ ?_ ?_)
  · intro g1
    refine tk_ex rfl rfl ?_
    iterate 1 (refine tr_mv rfl (fun _ => rfl) ?_)
    refine tr_ri rfl rfl ?_
    refine ⟨1, rfl, ?_⟩
    obtain ⟨m1, m2, mT, m4, mH, mE, mC, m8, m9⟩ := id hm
    refine s_251 (N := 0) hT hE mT mE m4.1 (fun X hX => ⟨m4.2.1 X hX, hru X hX⟩) hi hx ?_ ?_ ?_ ?_
    · intro g2
      exact ansE0 hok hc hm 1 (by decide)
    · intro g2
      exact absurd g2 g1
    · intro X2 Y2 σ2 e2 e4 k1 k2
      exfalso
      omega
    · intro X2 Y2 D2 σ2 e2 e4 k1 k2
      exfalso
      omega
  · intro g1 g3
    refine tk_ex rfl rfl ?_
    iterate 1 (refine tr_mv rfl (fun _ => rfl) ?_)
    refine tr_ri rfl rfl ?_
    refine ⟨2, rfl, ?_⟩
    obtain ⟨m1, m2, mT, m4, mH, mE, mC, m8, m9⟩ := id hm
    refine s_251 (N := 0) hT hE mT mE m4.1 (fun X hX => ⟨m4.2.1 X hX, hru X hX⟩) hi hx ?_ ?_ ?_ ?_
    · intro g2
      exact absurd g1 g2
    · intro g2 g4
      exact ansE0 hok hc hm 2 (by decide)
    · intro X2 Y2 σ2 e2 e4 k1 k2 k3
      exfalso
      omega
    · intro X2 Y2 D2 σ2 e2 e4 k1 k2 k3
      exfalso
      omega
  · intro X Y σ' e1 e3 hX hY hXY g3 ch
    have hc2 : cAll σ' B M ds an tx D3 o3 R3 hd en bf ws rs rd PA PB hh ww := hc.of hl he ch (fun a g => by unfold scR; omega) (fun _ _ g => noC_sc g)
    have hm2 : mAll σ' B M ds an tx D3 o3 R3 hd en bf ws rs rd PA PB hh ww := hm.ofc (fun q i g _ => ch.2 q i (fun g => g))
    refine tk_ex rfl rfl ?_
    iterate 1 (refine tr_mv rfl (fun _ => rfl) ?_)
    refine tr_ri rfl rfl ?_
    refine ⟨3, rfl, ?_⟩
    obtain ⟨m1, m2, mT, m4, mH, mE, mC, m8, m9⟩ := id hm2
    refine s_251 (N := 0) hT hE mT mE m4.1 (fun X hX => ⟨m4.2.1 X hX, hru X hX⟩) hi hx ?_ ?_ ?_ ?_
    · intro g2
      exfalso
      omega
    · intro g2 g4
      exfalso
      omega
    · intro X2 Y2 σ2 e2 e4 k1 k2 k3 k4 z9 o9
      have h5 := m4.keep3 hru o9
      have hm5 : mAll σ2 B M ds an tx D3 o3 R3 hd en bf ws rs rd PA PB hh ww := hm2.tl o9 (fun q j g => (cA3_2 g).elim Or.inl (fun c => Or.inr (Or.inr (Or.inr (Or.inr (Or.inl ⟨c.1, by omega⟩)))))) (m2.1.of o9 (fun q j g g2 => by
        have := cA3_2 g
        unfold scM at this
        omega)) (m2.2.of o9 (fun q j g g2 => by
        have := cA3_2 g
        unfold scM at this
        omega)) h5
      exact ⟨0, rfl, z9, fun e => absurd e (by decide), ⟨B, M, ds, an, tx, D3, o3, R3, hd, en, bf, ws, rs, rd, PA, PB, hh, ww, hok, hc2.ofm hl he o9 (fun q j g => by
        have := cA3_2 g
        unfold scM at this
        omega), hm5⟩⟩
    · intro X2 Y2 D2 σ2 e2 e4 k1 k2 k3 k4
      cases (show X2 = X by omega)
      cases (show Y2 = Y by omega)
      rw [k4] at g3
      cases g3
  · intro X Y D' σ' e1 e3 hX hY hXY g3 w4 w5 k2 k4 k5 k6 ch
    have hok2 := hok.tl (o' := o3 X) hX (Or.inr trivial) w5
    have h4 : cG4 σ' tx en (upf D3 X D') (upf o3 X (o3 X)) (upf R3 X (R3 X ++ R3 Y)) (upf bf X (ordE tx en (D3 X) (o3 X) X)) := c4.upX hX ch (fun a g g2 => by omega) (fun q j g g2 => by omega) w4 k2 ((c4.1 X hX).2.2.1.of ch (fun j g => by omega)) k4 k5 k6
    have hc2 := hc.tl hl he ch (fun a g => by unfold scR; omega) (fun q j g => by unfold scC; omega) ((ch.1 6 (by omega)).trans c2.1) ((ch.1 8 (by omega)).trans c2.2) h4
    iterate 1 (refine tr_mv rfl (fun _ => rfl) ?_)
    refine tr_ls rfl ?_
    iterate 2 (refine tr_mv rfl (fun _ => rfl) ?_)
    refine tr_ri rfl rfl ?_
    refine ⟨0, rfl, ?_⟩
    have hm3 := mAll.out (v := m32 ((R3 X ++ R3 Y).length : Int)) hm (σ' := σ') (fun q j g => ch.2 q j (fun g2 => by omega))
    have hc3 := cAll.out (v := m32 ((R3 X ++ R3 Y).length : Int)) hc2 hl he
    obtain ⟨m1, m2, mT, m4, mH, mE, mC, m8, m9⟩ := id hm3
    refine s_251 (N := 0) hT hE mT mE m4.1 (fun X hX => ⟨m4.2.1 X hX, hru X hX⟩) hi hx ?_ ?_ ?_ ?_
    · intro g2
      exfalso
      omega
    · intro g2 g4
      exfalso
      omega
    · intro X2 Y2 σ2 e2 e4 k1 k2 k3 k4
      cases (show X2 = X by omega)
      cases (show Y2 = Y by omega)
      rw [k4] at g3
      cases g3
    · intro X2 Y2 D2 σ2 e2 e4 q1 q2 q3 q4 t1 t2 t5 t6 z9 o9
      cases (show X2 = X by omega)
      cases (show Y2 = Y by omega)
      rw [g3] at q4
      cases q4
      have hin : ∀ q j, cAdo X q j → rulI X q j ∨ cTl X q j ∨ cTl 3 q j := fun q j g => cAdo_in g
      have hi2 : ∀ q j, cAdo X q j → rulI X q j ∨ (490 ≤ q ∧ q ≤ 502) := fun q j g => (hin q j g).imp id (fun c => c.elim cTl_q cTl_q)
      have hi3 : ∀ q j, cAdo X q j → (q ≠ 483 ∧ q ≠ 484 ∧ (q = 480 → j ≠ 4 ∧ j ≠ 6)) := fun q j g => by
        rcases g with g | g | g | g
        · rcases g with g | g | g
          · have := cOd_in2 g
            omega
          · omega
          · omega
        · have := cTl_q g
          omega
        · have := cTl_q g
          omega
        · omega
      have h5 : mG4 σ2 (upf D3 X D') (upf o3 X (o3 X)) (upf R3 X (R3 X ++ R3 Y)) (upf bf X (ordE tx en (D3 X) (o3 X) X)) := m4.upX hru hok.bl o9 (fun q j g g2 => (hin q j g).elim (fun c => (rulI_1 c g2).elim (fun c => Or.inr (Or.inr (Or.inr (Or.inl c)))) (fun c => Or.inr (Or.inr (Or.inr (Or.inr c))))) (fun c => c.elim Or.inl (fun c => Or.inr (Or.inl c)))) w4 t1 ((m4.1 X hX).2.2.other o9 (fun j g1 g2 g => by
        have := hi2 _ _ g
        unfold rulI at this
        omega)) t2 ⟨t5, t6⟩
      exact ansU hok2 hc3 (hm3.tl o9 (fun q j g => (hi2 q j g).elim (fun c => rulI_2 (Or.inl c)) (fun c => Or.inr (Or.inr (Or.inr (Or.inr (Or.inl ⟨c.1, by omega⟩)))))) (m2.1.of o9 (fun q j g g2 => by have := hi3 q j g; omega)) (m2.2.of o9 (fun q j g g2 => by have := hi3 q j g; omega)) h5) (setF_same ..) z9 o9 (fun q j g => by
        have := hi2 q j g
        unfold rulI at this
        omega)
end ADOPT
