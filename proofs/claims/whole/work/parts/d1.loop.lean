/-! The law's loop. -/
section LOOP
variable {Ls N k pc n a b c i j : Nat} {L : mLs} {st r : List mV} {σ σ' : Sg} {post : tP} {x z : Int} {S : Nat → Int} {v5 v6 : Option mV}
theorem tr_al0 (hL : Ls ≤ 3072) (he : mPg.1 k pc = some (.arraylength, n, a, b, c)) (K : Tr Ls N k (pc + n) L (mI (Ls : Int) :: r) σ post) : Tr Ls N k pc L (mP (some 0) :: r) σ post := by
  refine tr_step he (fun h hr => ⟨h, ?_, hr⟩) K
  simp only [mstep, mp1]
  rw [hr.1]
  show (if 0 ≤ 6 ∧ Ls < 2147483648 then mnx (pc + n) L (mI Ls :: r) h else none) = _
  rw [if_pos ⟨by omega, by omega⟩]
  rfl
set_option maxRecDepth 8000 in
theorem lw_sw (hR : StR σ) (hs : ∀ j, σ.2 0 j = S j) (h32 : ∀ j, in32 (S j)) (hi : i + 5 < Ls) (hL : Ls ≤ 3072) (K : lwK Ls (N + 1) i S post) (K2 : lwK Ls N i S post) : Tr Ls (N + 1) 364 40 [some (mP (some 0)), some (mP (some 2)), some (mP (some 480)), some (mP (some 533)), some (mI (i : Int)), v5, v6] [mI x] σ post := by
  by_cases e0 : m32 x = 0
  · refine tr_mv rfl (fun h => ?_) (lw_0 hR hs h32 hi hL K2)
    simp only [mstep, mi1]
    rw [e0]
    rfl
  by_cases e1 : m32 x = 1
  · refine tr_mv rfl (fun h => ?_) (lw_1 hR hs h32 hi hL K2)
    simp only [mstep, mi1]
    rw [e1]
    rfl
  by_cases e2 : m32 x = 2
  · refine tr_mv rfl (fun h => ?_) (lw_2 hR hs h32 hi hL K2)
    simp only [mstep, mi1]
    rw [e2]
    rfl
  by_cases e3 : m32 x = 3
  · refine tr_mv rfl (fun h => ?_) (lw_3 hR hs h32 hi hL K2)
    simp only [mstep, mi1]
    rw [e3]
    rfl
  by_cases e4 : m32 x = 4
  · refine tr_mv rfl (fun h => ?_) (lw_4 hR hs h32 hi hL K2)
    simp only [mstep, mi1]
    rw [e4]
    rfl
  by_cases e5 : m32 x = 5
  · refine tr_mv rfl (fun h => ?_) (lw_5 hR hs h32 hi hL K2)
    simp only [mstep, mi1]
    rw [e5]
    rfl
  by_cases e6 : m32 x = 6
  · refine tr_mv rfl (fun h => ?_) (lw_6 hR hs h32 hi hL K2)
    simp only [mstep, mi1]
    rw [e6]
    rfl
  by_cases e7 : m32 x = 7
  · refine tr_mv rfl (fun h => ?_) (lw_7 hR hs h32 hi hL K2)
    simp only [mstep, mi1]
    rw [e7]
    rfl
  by_cases e8 : m32 x = 8
  · refine tr_mv rfl (fun h => ?_) (lw_8 hR hs h32 hi hL K2)
    simp only [mstep, mi1]
    rw [e8]
    rfl
  by_cases e9 : m32 x = 9
  · refine tr_mv rfl (fun h => ?_) (lw_9 hR hs h32 hi hL K2)
    simp only [mstep, mi1]
    rw [e9]
    rfl
  by_cases e10 : m32 x = 10
  · refine tr_mv rfl (fun h => ?_) (lw_10 hR hs h32 hi hL K2)
    simp only [mstep, mi1]
    rw [e10]
    rfl
  by_cases e11 : m32 x = 11
  · refine tr_mv rfl (fun h => ?_) (lw_11 hR hs h32 hi hL K2)
    simp only [mstep, mi1]
    rw [e11]
    rfl
  by_cases e12 : m32 x = 12
  · refine tr_mv rfl (fun h => ?_) (lw_12 hR hs h32 hi hL K2)
    simp only [mstep, mi1]
    rw [e12]
    rfl
  by_cases e13 : m32 x = 13
  · refine tr_mv rfl (fun h => ?_) (lw_13 hR hs h32 hi hL K2)
    simp only [mstep, mi1]
    rw [e13]
    rfl
  by_cases e14 : m32 x = 14
  · refine tr_mv rfl (fun h => ?_) (lw_14 hR hs h32 hi hL K2)
    simp only [mstep, mi1]
    rw [e14]
    rfl
  by_cases e15 : m32 x = 15
  · refine tr_mv rfl (fun h => ?_) (lw_15 hR hs h32 hi hL K2)
    simp only [mstep, mi1]
    rw [e15]
    rfl
  by_cases e16 : m32 x = 16
  · refine tr_mv rfl (fun h => ?_) (lw_16 hR hs h32 hi hL K2)
    simp only [mstep, mi1]
    rw [e16]
    rfl
  by_cases e17 : m32 x = 17
  · refine tr_mv rfl (fun h => ?_) (lw_17 hR hs h32 hi hL K2)
    simp only [mstep, mi1]
    rw [e17]
    rfl
  by_cases e18 : m32 x = 18
  · refine tr_mv rfl (fun h => ?_) (lw_18 hR hs h32 hi hL K2)
    simp only [mstep, mi1]
    rw [e18]
    rfl
  by_cases e19 : m32 x = 19
  · refine tr_mv rfl (fun h => ?_) (lw_19 hR hs h32 hi hL K2)
    simp only [mstep, mi1]
    rw [e19]
    rfl
  by_cases e20 : m32 x = 20
  · refine tr_mv rfl (fun h => ?_) (lw_20 hR hs h32 hi hL K2)
    simp only [mstep, mi1]
    rw [e20]
    rfl
  by_cases e21 : m32 x = 21
  · refine tr_mv rfl (fun h => ?_) (lw_21 hR hs h32 hi hL K2)
    simp only [mstep, mi1]
    rw [e21]
    rfl
  by_cases e22 : m32 x = 22
  · refine tr_mv rfl (fun h => ?_) (lw_22 hR hs h32 hi hL K2)
    simp only [mstep, mi1]
    rw [e22]
    rfl
  by_cases e23 : m32 x = 23
  · refine tr_mv rfl (fun h => ?_) (lw_23 hR hs h32 hi hL K2)
    simp only [mstep, mi1]
    rw [e23]
    rfl
  by_cases e24 : m32 x = 24
  · refine tr_mv rfl (fun h => ?_) (lw_24 hR hs h32 hi hL K2)
    simp only [mstep, mi1]
    rw [e24]
    rfl
  by_cases e25 : m32 x = 25
  · refine tr_mv rfl (fun h => ?_) (lw_25 hR hs h32 hi hL K2)
    simp only [mstep, mi1]
    rw [e25]
    rfl
  by_cases e26 : m32 x = 26
  · refine tr_mv rfl (fun h => ?_) (lw_26 hR hs h32 hi hL K2)
    simp only [mstep, mi1]
    rw [e26]
    rfl
  by_cases e27 : m32 x = 27
  · refine tr_mv rfl (fun h => ?_) (lw_27 hR hs h32 hi hL K2)
    simp only [mstep, mi1]
    rw [e27]
    rfl
  by_cases e28 : m32 x = 28
  · refine tr_mv rfl (fun h => ?_) (lw_28 hR hs h32 hi hL K2)
    simp only [mstep, mi1]
    rw [e28]
    rfl
  by_cases e29 : m32 x = 29
  · refine tr_mv rfl (fun h => ?_) (lw_29 hR hs h32 hi hL K2)
    simp only [mstep, mi1]
    rw [e29]
    rfl
  by_cases e30 : m32 x = 30
  · refine tr_mv rfl (fun h => ?_) (lw_30 hR hs h32 hi hL K2)
    simp only [mstep, mi1]
    rw [e30]
    rfl
  by_cases e31 : m32 x = 31
  · refine tr_mv rfl (fun h => ?_) (lw_31 hR hs h32 hi hL K2)
    simp only [mstep, mi1]
    rw [e31]
    rfl
  by_cases e32 : m32 x = 32
  · refine tr_mv rfl (fun h => ?_) (lw_32 hR hs h32 hi hL K2)
    simp only [mstep, mi1]
    rw [e32]
    rfl
  by_cases e33 : m32 x = 33
  · refine tr_mv rfl (fun h => ?_) (lw_33 hR hs h32 hi hL K2)
    simp only [mstep, mi1]
    rw [e33]
    rfl
  by_cases e34 : m32 x = 34
  · refine tr_mv rfl (fun h => ?_) (lw_34 hR hs h32 hi hL K2)
    simp only [mstep, mi1]
    rw [e34]
    rfl
  by_cases e35 : m32 x = 35
  · refine tr_mv rfl (fun h => ?_) (lw_35 hR hs h32 hi hL K2)
    simp only [mstep, mi1]
    rw [e35]
    rfl
  by_cases e36 : m32 x = 36
  · refine tr_mv rfl (fun h => ?_) (lw_36 hR hs h32 hi hL K2)
    simp only [mstep, mi1]
    rw [e36]
    rfl
  · refine tr_mv rfl (fun h => ?_) (K σ _ _ hR hs)
    simp only [mstep, mi1]
    rw [if_pos (by omega)]
    rfl
theorem lw_loop (h32 : ∀ j, in32 (S j)) (hL : Ls ≤ 3072) : ∀ (d i : Nat) (σ : Sg) (v5 v6 : Option mV), StR σ → (∀ j, σ.2 0 j = S j) → Ls ≤ i + 6 * d + 5 → i ≤ Ls + 5 → Tr Ls d 364 23 [some (mP (some 0)), some (mP (some 2)), some (mP (some 480)), some (mP (some 533)), some (mI (i : Int)), v5, v6] [] σ (fun o _ => o = .inl (some (mI 1))) := by
  intro d
  induction d with
  | zero =>
    intro i σ v5 v6 hR hs hd hi
    iterate 2 (refine tr_mv rfl (fun _ => rfl) ?_)
    refine tr_al0 hL rfl ?_
    iterate 2 (refine tr_mv rfl (fun _ => rfl) ?_)
    refine tr_cmp2 rfl (m32_of (by omega)) (m32_of (by omega)) (fun _ => ?_) (fun e => absurd (show (Ls : Int) - 6 < (i : Int) by omega) e)
    refine tr_mv rfl (fun _ => rfl) ?_
    exact tr_ri rfl rfl rfl
  | succ d ih =>
    intro i σ v5 v6 hR hs hd hi
    iterate 2 (refine tr_mv rfl (fun _ => rfl) ?_)
    refine tr_al0 hL rfl ?_
    iterate 2 (refine tr_mv rfl (fun _ => rfl) ?_)
    refine tr_cmp2 rfl (m32_of (by omega)) (m32_of (by omega)) (fun _ => ?_) (fun e => ?_)
    · refine tr_mv rfl (fun _ => rfl) ?_
      exact tr_ri rfl rfl rfl
    · have e2 : ¬ (Ls : Int) - 6 < (i : Int) := e
      have hi5 : i + 5 < Ls := by omega
      have K2 : lwK Ls d i S (fun o _ => o = .inl (some (mI 1))) := fun σ' w5 w6 hR' hs' => by
        refine tr_mv rfl (fun _ => rfl) ?_
        refine tr_mv rfl (fun _ => rfl) ?_
        have := ih (i + 6) σ' w5 w6 hR' hs' (by omega) (by omega)
        rw [show ((i + 6 : Nat) : Int) = (i : Int) + 6 by omega] at this
        exact this
      have K1 : lwK Ls (d + 1) i S (fun o _ => o = .inl (some (mI 1))) := fun σ' w5 w6 hR' hs' => tr_mono (K2 σ' w5 w6 hR' hs') (by omega)
      iterate 2 (refine tr_mv rfl (fun _ => rfl) ?_)
      refine tr_sc (by rw [m32_of (by omega)]; omega) rfl ?_
      iterate 2 (refine tr_mv rfl (fun _ => rfl) ?_)
      exact lw_sw hR hs h32 hi5 hL K1 K2
end LOOP
