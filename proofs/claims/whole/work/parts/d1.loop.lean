/-! The law's loop. -/
section LOOP
variable {Ls N k pc n a b c i j : Nat} {L : mLs} {st r : List mV} {σ σ' : Sg} {post : tP} {x z : Int} {S : Nat → Int} {v5 v6 : Option mV}
theorem tr_al0 (hL : Ls ≤ 3072) (he : mPg.1 k pc = some (.arraylength, n, a, b, c)) (K : Tr Ls N k (pc + n) L (mI (Ls : Int) :: r) σ post) : Tr Ls N k pc L (mP (some 0) :: r) σ post := by
  refine tr_step he (fun h hr => ⟨h, ?_, hr⟩) K
  simp only [mstep, mp1]
  rw [hr.1]
  show (if 0 ≤ 6 ∧ Ls < 2147483648 then mnx (pc + n) L (mI Ls :: r) h else none) = _
  rw [if_pos ⟨by omega, by omega⟩]
  rfl
theorem tr_ts {d lo hi : Int} {offs : Array Int} {off : Int} {t : Nat} (he : mPg.1 k pc = some (.tableswitch d lo hi offs, n, a, b, c)) (h1 : ¬ (m32 x < lo ∨ hi < m32 x)) (h2 : offs[(m32 x - lo).toNat]? = some off) (h3 : 0 ≤ (pc : Int) + off) (h4 : ((pc : Int) + off).toNat = t) (K : Tr Ls N k t L r σ post) : Tr Ls N k pc L (mI x :: r) σ post := by
  refine tr_mv he (fun h => ?_) K
  simp only [mstep, mi1]
  rw [if_neg h1, h2]
  dsimp only
  rw [if_pos h3, h4]
  rfl
theorem tr_td {d lo hi : Int} {offs : Array Int} {t : Nat} (he : mPg.1 k pc = some (.tableswitch d lo hi offs, n, a, b, c)) (h1 : m32 x < lo ∨ hi < m32 x) (h3 : 0 ≤ (pc : Int) + d) (h4 : ((pc : Int) + d).toNat = t) (K : Tr Ls N k t L r σ post) : Tr Ls N k pc L (mI x :: r) σ post := by
  refine tr_mv he (fun h => ?_) K
  simp only [mstep, mi1]
  rw [if_pos h1, if_pos h3, h4]
  rfl
set_option maxRecDepth 8000 in
theorem lw_sw (hR : StR σ) (hs : ∀ j, σ.2 0 j = S j) (h32 : ∀ j, in32 (S j)) (hi : i + 5 < Ls) (hL : Ls ≤ 3072) (K : lwK Ls (N + 1) i S post) (K2 : lwK Ls N i S post) : Tr Ls (N + 1) 364 40 [some (mP (some 0)), some (mP (some 2)), some (mP (some 480)), some (mP (some 533)), some (mI (i : Int)), v5, v6] [mI x] σ post := by
  by_cases e0 : m32 x = 0
  · exact tr_ts (off := 164) (t := 204) rfl (by rw [e0]; decide) (by rw [e0]; rfl) (by decide) (by decide) (lw_0 hR hs h32 hi hL K2)
  by_cases e1 : m32 x = 1
  · exact tr_ts (off := 220) (t := 260) rfl (by rw [e1]; decide) (by rw [e1]; rfl) (by decide) (by decide) (lw_1 hR hs h32 hi hL K2)
  by_cases e2 : m32 x = 2
  · exact tr_ts (off := 300) (t := 340) rfl (by rw [e2]; decide) (by rw [e2]; rfl) (by decide) (by decide) (lw_2 hR hs h32 hi hL K2)
  by_cases e3 : m32 x = 3
  · exact tr_ts (off := 344) (t := 384) rfl (by rw [e3]; decide) (by rw [e3]; rfl) (by decide) (by decide) (lw_3 hR hs h32 hi hL K2)
  by_cases e4 : m32 x = 4
  · exact tr_ts (off := 357) (t := 397) rfl (by rw [e4]; decide) (by rw [e4]; rfl) (by decide) (by decide) (lw_4 hR hs h32 hi hL K2)
  by_cases e5 : m32 x = 5
  · exact tr_ts (off := 401) (t := 441) rfl (by rw [e5]; decide) (by rw [e5]; rfl) (by decide) (by decide) (lw_5 hR hs h32 hi hL K2)
  by_cases e6 : m32 x = 6
  · exact tr_ts (off := 469) (t := 509) rfl (by rw [e6]; decide) (by rw [e6]; rfl) (by decide) (by decide) (lw_6 hR hs h32 hi hL K2)
  by_cases e7 : m32 x = 7
  · exact tr_ts (off := 537) (t := 577) rfl (by rw [e7]; decide) (by rw [e7]; rfl) (by decide) (by decide) (lw_7 hR hs h32 hi hL K2)
  by_cases e8 : m32 x = 8
  · exact tr_ts (off := 640) (t := 680) rfl (by rw [e8]; decide) (by rw [e8]; rfl) (by decide) (by decide) (lw_8 hR hs h32 hi hL K2)
  by_cases e9 : m32 x = 9
  · exact tr_ts (off := 724) (t := 764) rfl (by rw [e9]; decide) (by rw [e9]; rfl) (by decide) (by decide) (lw_9 hR hs h32 hi hL K2)
  by_cases e10 : m32 x = 10
  · exact tr_ts (off := 804) (t := 844) rfl (by rw [e10]; decide) (by rw [e10]; rfl) (by decide) (by decide) (lw_10 hR hs h32 hi hL K2)
  by_cases e11 : m32 x = 11
  · exact tr_ts (off := 884) (t := 924) rfl (by rw [e11]; decide) (by rw [e11]; rfl) (by decide) (by decide) (lw_11 hR hs h32 hi hL K2)
  by_cases e12 : m32 x = 12
  · exact tr_ts (off := 971) (t := 1011) rfl (by rw [e12]; decide) (by rw [e12]; rfl) (by decide) (by decide) (lw_12 hR hs h32 hi hL K2)
  by_cases e13 : m32 x = 13
  · exact tr_ts (off := 1074) (t := 1114) rfl (by rw [e13]; decide) (by rw [e13]; rfl) (by decide) (by decide) (lw_13 hR hs h32 hi hL K2)
  by_cases e14 : m32 x = 14
  · exact tr_ts (off := 1130) (t := 1170) rfl (by rw [e14]; decide) (by rw [e14]; rfl) (by decide) (by decide) (lw_14 hR hs h32 hi hL K2)
  by_cases e15 : m32 x = 15
  · exact tr_ts (off := 1198) (t := 1238) rfl (by rw [e15]; decide) (by rw [e15]; rfl) (by decide) (by decide) (lw_15 hR hs h32 hi hL K2)
  by_cases e16 : m32 x = 16
  · exact tr_ts (off := 1266) (t := 1306) rfl (by rw [e16]; decide) (by rw [e16]; rfl) (by decide) (by decide) (lw_16 hR hs h32 hi hL K2)
  by_cases e17 : m32 x = 17
  · exact tr_ts (off := 1334) (t := 1374) rfl (by rw [e17]; decide) (by rw [e17]; rfl) (by decide) (by decide) (lw_17 hR hs h32 hi hL K2)
  by_cases e18 : m32 x = 18
  · exact tr_ts (off := 1378) (t := 1418) rfl (by rw [e18]; decide) (by rw [e18]; rfl) (by decide) (by decide) (lw_18 hR hs h32 hi hL K2)
  by_cases e19 : m32 x = 19
  · exact tr_ts (off := 1446) (t := 1486) rfl (by rw [e19]; decide) (by rw [e19]; rfl) (by decide) (by decide) (lw_19 hR hs h32 hi hL K2)
  by_cases e20 : m32 x = 20
  · exact tr_ts (off := 1459) (t := 1499) rfl (by rw [e20]; decide) (by rw [e20]; rfl) (by decide) (by decide) (lw_20 hR hs h32 hi hL K2)
  by_cases e21 : m32 x = 21
  · exact tr_ts (off := 1555) (t := 1595) rfl (by rw [e21]; decide) (by rw [e21]; rfl) (by decide) (by decide) (lw_21 hR hs h32 hi hL K2)
  by_cases e22 : m32 x = 22
  · exact tr_ts (off := 1611) (t := 1651) rfl (by rw [e22]; decide) (by rw [e22]; rfl) (by decide) (by decide) (lw_22 hR hs h32 hi hL K2)
  by_cases e23 : m32 x = 23
  · exact tr_ts (off := 1679) (t := 1719) rfl (by rw [e23]; decide) (by rw [e23]; rfl) (by decide) (by decide) (lw_23 hR hs h32 hi hL K2)
  by_cases e24 : m32 x = 24
  · exact tr_ts (off := 1759) (t := 1799) rfl (by rw [e24]; decide) (by rw [e24]; rfl) (by decide) (by decide) (lw_24 hR hs h32 hi hL K2)
  by_cases e25 : m32 x = 25
  · exact tr_ts (off := 1851) (t := 1891) rfl (by rw [e25]; decide) (by rw [e25]; rfl) (by decide) (by decide) (lw_25 hR hs h32 hi hL K2)
  by_cases e26 : m32 x = 26
  · exact tr_ts (off := 1943) (t := 1983) rfl (by rw [e26]; decide) (by rw [e26]; rfl) (by decide) (by decide) (lw_26 hR hs h32 hi hL K2)
  by_cases e27 : m32 x = 27
  · exact tr_ts (off := 2035) (t := 2075) rfl (by rw [e27]; decide) (by rw [e27]; rfl) (by decide) (by decide) (lw_27 hR hs h32 hi hL K2)
  by_cases e28 : m32 x = 28
  · exact tr_ts (off := 2139) (t := 2179) rfl (by rw [e28]; decide) (by rw [e28]; rfl) (by decide) (by decide) (lw_28 hR hs h32 hi hL K2)
  by_cases e29 : m32 x = 29
  · exact tr_ts (off := 2152) (t := 2192) rfl (by rw [e29]; decide) (by rw [e29]; rfl) (by decide) (by decide) (lw_29 hR hs h32 hi hL K2)
  by_cases e30 : m32 x = 30
  · exact tr_ts (off := 2220) (t := 2260) rfl (by rw [e30]; decide) (by rw [e30]; rfl) (by decide) (by decide) (lw_30 hR hs h32 hi hL K2)
  by_cases e31 : m32 x = 31
  · exact tr_ts (off := 2288) (t := 2328) rfl (by rw [e31]; decide) (by rw [e31]; rfl) (by decide) (by decide) (lw_31 hR hs h32 hi hL K2)
  by_cases e32 : m32 x = 32
  · exact tr_ts (off := 2356) (t := 2396) rfl (by rw [e32]; decide) (by rw [e32]; rfl) (by decide) (by decide) (lw_32 hR hs h32 hi hL K2)
  by_cases e33 : m32 x = 33
  · exact tr_ts (off := 2412) (t := 2452) rfl (by rw [e33]; decide) (by rw [e33]; rfl) (by decide) (by decide) (lw_33 hR hs h32 hi hL K2)
  by_cases e34 : m32 x = 34
  · exact tr_ts (off := 2425) (t := 2465) rfl (by rw [e34]; decide) (by rw [e34]; rfl) (by decide) (by decide) (lw_34 hR hs h32 hi hL K2)
  by_cases e35 : m32 x = 35
  · exact tr_ts (off := 2481) (t := 2521) rfl (by rw [e35]; decide) (by rw [e35]; rfl) (by decide) (by decide) (lw_35 hR hs h32 hi hL K2)
  by_cases e36 : m32 x = 36
  · exact tr_ts (off := 2549) (t := 2589) rfl (by rw [e36]; decide) (by rw [e36]; rfl) (by decide) (by decide) (lw_36 hR hs h32 hi hL K2)
  · exact tr_td (t := 2685) rfl (by omega) (by decide) (by decide) (K σ _ _ hR hs)
set_option maxRecDepth 8000 in
theorem lw_loop (h32 : ∀ j, in32 (S j)) (hL : Ls ≤ 3072) : ∀ (d i : Nat) (σ : Sg) (v5 v6 : Option mV), StR σ → (∀ j, σ.2 0 j = S j) → Ls ≤ i + 6 * d + 5 → i ≤ Ls + 5 → Tr Ls d 364 23 [some (mP (some 0)), some (mP (some 2)), some (mP (some 480)), some (mP (some 533)), some (mI (i : Int)), v5, v6] [] σ (fun o _ => o = .inl (some (mI 1))) := by
  intro d
  induction d with
  | zero =>
    intro i σ v5 v6 hR hs hd hi
    iterate 2 (refine tr_mv rfl (fun _ => rfl) ?_)
    refine tr_al0 hL rfl ?_
    iterate 2 (refine tr_mv rfl (fun _ => rfl) ?_)
    refine tr_cmp2 rfl (m32_of (by omega)) (m32_of (by omega)) (fun _ => ?_) (fun e => absurd (show (Ls : Int) - 6 < (i : Int) by omega) e)
    refine tr_mv rfl (fun _ => rfl) ?_
    exact tr_reti rfl (Or.inr (Or.inr rfl)) rfl
  | succ d ih =>
    intro i σ v5 v6 hR hs hd hi
    iterate 2 (refine tr_mv rfl (fun _ => rfl) ?_)
    refine tr_al0 hL rfl ?_
    iterate 2 (refine tr_mv rfl (fun _ => rfl) ?_)
    refine tr_cmp2 rfl (m32_of (by omega)) (m32_of (by omega)) (fun _ => ?_) (fun e => ?_)
    · refine tr_mv rfl (fun _ => rfl) ?_
      exact tr_reti rfl (Or.inr (Or.inr rfl)) rfl
    · have e2 : ¬ (Ls : Int) - 6 < (i : Int) := e
      have hi5 : i + 5 < Ls := by omega
      have K2 : lwK Ls d i S (fun o _ => o = .inl (some (mI 1))) := fun σ' w5 w6 hR' hs' => by
        refine tr_mv rfl (fun _ => rfl) ?_
        refine tr_mv rfl (fun _ => rfl) ?_
        have := ih (i + 6) σ' w5 w6 hR' hs' (by omega) (by omega)
        rw [show ((i + 6 : Nat) : Int) = (i : Int) + 6 by omega] at this
        exact this
      have K1 : lwK Ls (d + 1) i S (fun o _ => o = .inl (some (mI 1))) := fun σ' w5 w6 hR' hs' => tr_mono (K2 σ' w5 w6 hR' hs') (by omega)
      iterate 2 (refine tr_mv rfl (fun _ => rfl) ?_)
      refine tr_sc (by rw [m32_of (by omega)]; omega) rfl ?_
      iterate 2 (refine tr_mv rfl (fun _ => rfl) ?_)
      exact lw_sw hR hs h32 hi5 hL K1 K2
end LOOP
