/-! Calls that answer yes or no; calls without a guard: both sides. -/
section BOOLS
variable {Ls N k pc n a : Nat} {L : mLs} {σ σ' σ1 σ2 : Sg} {post : tP} {i x y z v : Int} {B M : Int → Int} {ds an dA : List Int} {R : Nat → Prop} {C : Nat → Nat → Prop} {ws rs PA PB : List Int} {tx : List (List Int)} {D3 : Nat → TD} {o3 : Nat → Nat → Int} {R3 : Nat → RuT} {hd : Nat → Int} {en : List EnT} {bf : Nat → List Nat} {rd : Nat → List Int} {hh ww : Int} {X : Nat} {D' : TD} {o' : Nat → Int} {R' : RuT}
theorem wbool337 {b : Int} (hb : b = 0 ∨ b = 1) (K : post (.inl (some (mI 0))) (setF σ 533 0 b)) : Tr Ls N 337 10 L [mI b, mI 0, mP (some 533)] σ post := by
  have key : ∀ w : Int, w = b → Tr Ls N 337 18 L [mJ w, mI 0, mP (some 533)] σ post := by
    intro w hw
    refine tr_ls rfl ?_
    iterate 2 (refine tr_mv rfl (fun _ => rfl) ?_)
    exact tr_ri rfl rfl (by rw [hw]; exact K)
  rcases hb with rfl | rfl
  · refine tr_if2 rfl (m32_of (x := 0) ⟨by decide, by decide⟩) (fun _ => ?_) (fun c => absurd rfl c)
    iterate 1 (refine tr_mv rfl (fun _ => rfl) ?_)
    exact key 0 rfl
  · refine tr_if2 rfl (m32_of (x := 1) ⟨by decide, by decide⟩) (fun c => absurd c (by decide)) (fun _ => ?_)
    iterate 2 (refine tr_mv rfl (fun _ => rfl) ?_)
    exact key 1 rfl
theorem wbool341 {b : Int} (hb : b = 0 ∨ b = 1) (K : post (.inl (some (mI 0))) (setF σ 533 0 b)) : Tr Ls N 341 10 L [mI b, mI 0, mP (some 533)] σ post := by
  have key : ∀ w : Int, w = b → Tr Ls N 341 18 L [mJ w, mI 0, mP (some 533)] σ post := by
    intro w hw
    refine tr_ls rfl ?_
    iterate 2 (refine tr_mv rfl (fun _ => rfl) ?_)
    exact tr_ri rfl rfl (by rw [hw]; exact K)
  rcases hb with rfl | rfl
  · refine tr_if2 rfl (m32_of (x := 0) ⟨by decide, by decide⟩) (fun _ => ?_) (fun c => absurd rfl c)
    iterate 1 (refine tr_mv rfl (fun _ => rfl) ?_)
    exact key 0 rfl
  · refine tr_if2 rfl (m32_of (x := 1) ⟨by decide, by decide⟩) (fun c => absurd c (by decide)) (fun _ => ?_)
    iterate 2 (refine tr_mv rfl (fun _ => rfl) ?_)
    exact key 1 rfl
theorem wbool342 {b : Int} (hb : b = 0 ∨ b = 1) (K : post (.inl (some (mI 0))) (setF σ 533 0 b)) : Tr Ls N 342 10 L [mI b, mI 0, mP (some 533)] σ post := by
  have key : ∀ w : Int, w = b → Tr Ls N 342 18 L [mJ w, mI 0, mP (some 533)] σ post := by
    intro w hw
    refine tr_ls rfl ?_
    iterate 2 (refine tr_mv rfl (fun _ => rfl) ?_)
    exact tr_ri rfl rfl (by rw [hw]; exact K)
  rcases hb with rfl | rfl
  · refine tr_if2 rfl (m32_of (x := 0) ⟨by decide, by decide⟩) (fun _ => ?_) (fun c => absurd rfl c)
    iterate 1 (refine tr_mv rfl (fun _ => rfl) ?_)
    exact key 0 rfl
  · refine tr_if2 rfl (m32_of (x := 1) ⟨by decide, by decide⟩) (fun c => absurd c (by decide)) (fun _ => ?_)
    iterate 2 (refine tr_mv rfl (fun _ => rfl) ?_)
    exact key 1 rfl
theorem ansE0B (hok : okSt B M ds an tx D3 o3 R3 hd en bf ws rs rd PA PB hh ww) (hc : cAll σ B M ds an tx D3 o3 R3 hd en bf ws rs rd PA PB hh ww) (hm : mAll σ B M ds an tx D3 o3 R3 hd en bf ws rs rd PA PB hh ww) (j : Int) (hj : m32 j ≠ 0) : ∃ b' : Int, (.inl (some (mI 0)) : Option mV ⊕ Nat) = .inl (some (mI b')) ∧ (b' = 0 ∨ b' = 1) ∧ (setF σ 480 0 j).2 480 0 = j ∧ (m32 j = 0 → (setF σ 480 0 j).2 533 0 = b') ∧ StR (setF σ 480 0 j) :=
  ⟨0, rfl, Or.inl rfl, setF_same .., fun e => absurd e hj, (ansM hok hc hm (only_0 σ j) (fun _ _ g => c0_sc g)).1⟩
theorem ansUB (hok : okSt B M ds an tx D3 o3 R3 hd en bf ws rs rd PA PB hh ww) (hc : cAll σ1 B M ds an tx D3 o3 R3 hd en bf ws rs rd PA PB hh ww) (hm : mAll σ2 B M ds an tx D3 o3 R3 hd en bf ws rs rd PA PB hh ww) {b : Int} (hb : b = 0 ∨ b = 1) (hv : σ1.2 533 0 = b) (h0 : σ2.2 480 0 = 0) (ho : only C σ1 σ2) (hC : ∀ q i, C q i → 480 ≤ q ∧ q ≠ 533) : ∃ b' : Int, (.inl (some (mI b)) : Option mV ⊕ Nat) = .inl (some (mI b')) ∧ (b' = 0 ∨ b' = 1) ∧ σ2.2 480 0 = 0 ∧ (m32 0 = 0 → σ2.2 533 0 = b') ∧ StR σ2 :=
  ⟨b, rfl, hb, h0, fun _ => (ho.2 _ _ (fun g => (hC _ _ g).2 rfl)).trans hv, ⟨B, M, ds, an, tx, D3, o3, R3, hd, en, bf, ws, rs, rd, PA, PB, hh, ww, hok, hc.ofm hok.lens.1 hok.lens.2 ho (fun q i g => (hC q i g).1), hm⟩⟩
theorem op_7 (h : StR σ) (hi : in32 i) (hx : in32 x) (hy : y = 0 ∨ y = 1) : Tr Ls 1 337 0 [some (mP (some 2)), some (mI i), some (mI x), some (mI y), some (mP (some 533)), none] [] σ (jopB Ls 252 [some (mP (some 480)), some (mI i), some (mI x), some (mI y), none]) := by
  obtain ⟨B, M, ds, an, tx, D3, o3, R3, hd, en, bf, ws, rs, rd, PA, PB, hh, ww, hok, hc, hm⟩ := h
  obtain ⟨hl, he⟩ := hok.lens
  have hE := hok.ens
  have hT : okTx tx := hok.2.2.2.1
  have hru := hok.rus
  obtain ⟨c1, c2, cT, c4, cH, cE, cC, c8, c9⟩ := id hc
  iterate 6 (refine tr_mv rfl (fun _ => rfl) ?_)
  refine tr_vc1 (q := 2) rfl ⟨by decide, by decide +kernel⟩ rfl rfl rfl (s_135 (N := 0) hT hE cT cE c4.1 hi hx hy ?_ ?_)
  · intro g1
    refine tk_ex rfl rfl ?_
    iterate 1 (refine tr_mv rfl (fun _ => rfl) ?_)
    refine tr_ri rfl rfl ?_
    refine ⟨1, rfl, ?_⟩
    obtain ⟨m1, m2, mT, m4, mH, mE, mC, m8, m9⟩ := id hm
    refine s_252 (N := 0) hT hE mT mE m4.1 hi hx hy ?_ ?_
    · intro g2
      exact ansE0B hok hc hm 1 (by decide)
    · intro X2 j2 σ2 e2 e4 k1 k2
      exfalso
      omega
  · intro X j σ' e1 e3 hX hj k3 k2 k5 k6 ch
    have hok2 := hok.tl (D' := D3 X) (R' := R3 X) (o' := oU (o3 X) j y) hX (Or.inr trivial) (hru X hX)
    have h4 : cG4 σ' tx en (upf D3 X (D3 X)) (upf o3 X (oU (o3 X) j y)) (upf R3 X (R3 X)) (upf bf X (ordE tx en (D3 X) (o3 X) X)) := c4.upX hX ch (fun a g g2 => by omega) (fun q l g g2 => by omega) (c4.1 X hX).1 k2 k3 ((c4.2.1 X hX).of ch (fun a g g2 => by omega)) k5 k6
    have hc2 := hc.tl hl he ch (fun a g => by unfold scR; omega) (fun q l g => by unfold scC; omega) ((ch.1 6 (by omega)).trans c2.1) ((ch.1 8 (by omega)).trans c2.2) h4
    have hm3 := mAll.out (v := b2 (o3 X j = 1)) hm (σ' := σ') (fun q l g => ch.2 q l (fun g2 => by omega))
    have hc3 := cAll.out (v := b2 (o3 X j = 1)) hc2 hl he
    refine wbool337 (b := b2 (o3 X j = 1)) (b2_in _) ?_
    refine ⟨0, rfl, ?_⟩
    obtain ⟨m1, m2, mT, m4, mH, mE, mC, m8, m9⟩ := id hm3
    refine s_252 (N := 0) hT hE mT mE m4.1 hi hx hy ?_ ?_
    · intro g2
      exfalso
      omega
    · intro X2 j2 σ2 e2 e4 hX2 hj2 t3 t5 t6 z9 o9
      cases (show X2 = X by omega)
      cases (show j2 = j by omega)
      have hin : ∀ q l, (cRm X q l ∨ (q = 503 ∧ l = 3 * X + j) ∨ (q = 480 ∧ l = 0)) → rulI X q l ∨ (q = 503 ∧ l = 3 * X + j) := fun q l g => by
        rcases g with g | g | g
        · exact Or.inl (cRm_in g)
        · exact Or.inr g
        · refine Or.inl ?_
          unfold rulI
          omega
      have hi3 : ∀ q l, (cRm X q l ∨ (q = 503 ∧ l = 3 * X + j) ∨ (q = 480 ∧ l = 0)) → (q ≠ 483 ∧ q ≠ 484 ∧ (q = 480 → l ≠ 4 ∧ l ≠ 6)) := fun q l g => by
        rcases g with g | g | g
        · rcases g with g | g | g
          · have := cOd_in2 g
            omega
          · omega
          · omega
        · omega
        · omega
      have hi4 : ∀ q l, (cRm X q l ∨ (q = 503 ∧ l = 3 * X + j) ∨ (q = 480 ∧ l = 0)) → ¬ (490 ≤ q ∧ q ≤ 502) := fun q l g => by
        have := hin q l g
        unfold rulI at this
        omega
      have h5 : mG4 σ2 (upf D3 X (D3 X)) (upf o3 X (oU (o3 X) j y)) (upf R3 X (R3 X)) (upf bf X (ordE tx en (D3 X) (o3 X) X)) := m4.upX hru hok.bl o9 (fun q l g g2 => (hin q l g).elim (fun c => (rulI_1 c g2).elim (fun c => Or.inr (Or.inr (Or.inr (Or.inl c)))) (fun c => Or.inr (Or.inr (Or.inr (Or.inr c))))) (fun c => Or.inr (Or.inr (Or.inl ⟨c.1, by omega, by omega⟩)))) (m4.1 X hX).1 ((m4.1 X hX).2.1.el o9 (fun q l g1 g2 g => hi4 q l g ⟨g1, by omega⟩)) t3 ((m4.2.1 X hX).of o9 (fun q l g g2 => hi4 q l g (by omega))) ⟨t5, t6⟩
      exact ansUB hok2 hc3 (hm3.tl o9 (fun q l g => (hin q l g).elim (fun c => rulI_2 (Or.inl c)) (fun c => Or.inr (Or.inr (Or.inr (Or.inr (Or.inl ⟨by omega, by omega⟩)))))) (m2.1.of o9 (fun q l g g2 => by have := hi3 q l g; omega)) (m2.2.of o9 (fun q l g g2 => by have := hi3 q l g; omega)) h5) (b2_in _) (setF_same ..) z9 o9 (fun q l g => by
        have := hin q l g
        unfold rulI at this
        omega)
/-! calls without a guard -/
theorem op_19 (h : StR σ) : Tr Ls 1 147 0 [some (mP (some 2))] [] σ (jopD Ls 268 [some (mP (some 480))]) := by
  obtain ⟨B, M, ds, an, tx, D3, o3, R3, hd, en, bf, ws, rs, rd, PA, PB, hh, ww, hok, hc, hm⟩ := h
  obtain ⟨c1, c2, cT, -⟩ := id hc
  obtain ⟨m1, m2, mT, -⟩ := id hm
  refine s_147 (N := 1) cT ?_
  refine ⟨_, rfl, s_268 (N := 0) mT ?_⟩
  exact ⟨rfl, (ansM hok hc hm (only_0 σ 0) (fun _ _ g => c0_sc g)).1⟩
theorem op_28 (h : StR σ) : Tr Ls 1 156 0 [some (mP (some 2))] [] σ (jopD Ls 288 [some (mP (some 480))]) := by
  obtain ⟨B, M, ds, an, tx, D3, o3, R3, hd, en, bf, ws, rs, rd, PA, PB, hh, ww, hok, hc, hm⟩ := h
  obtain ⟨c1, c2, cT, c4, cH, cE, -⟩ := id hc
  obtain ⟨m1, m2, mT, m4, mH, mE, -⟩ := id hm
  refine s_156 (N := 1) cE ?_
  refine ⟨_, rfl, s_288 (N := 0) mE ?_⟩
  exact ⟨rfl, (ansM hok hc hm (only_0 σ 0) (fun _ _ g => c0_sc g)).1⟩
theorem op_33 (h : StR σ) : Tr Ls 1 161 0 [some (mP (some 2)), none, none] [] σ (jopD Ls 310 [some (mP (some 480)), none, none, none]) := by
  obtain ⟨B, M, ds, an, tx, D3, o3, R3, hd, en, bf, ws, rs, rd, PA, PB, hh, ww, hok, hc, hm⟩ := h
  obtain ⟨c1, c2, cT, c4, cH, cE, -⟩ := id hc
  obtain ⟨m1, m2, mT, m4, mH, mE, -⟩ := id hm
  refine s_161 (N := 1) hok.ens hok.rfs cE ?_
  refine ⟨_, rfl, s_310 (N := 0) hok.ens hok.rfs hok.lcs mE ?_⟩
  refine ⟨?_, (ansM hok hc hm (only_0 σ 0) (fun _ _ g => c0_sc g)).1⟩
  rw [dead_eq hok.rfs]
end BOOLS
