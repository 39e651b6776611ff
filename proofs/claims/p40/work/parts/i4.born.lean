/-! Behind the constructors both sides tell of the same. -/
section BORN
variable {lo lo' Ls a n c s c1 s1 pc pc1 pc' k' q j : Nat} {h h1 h2 h' : mH} {H : cx_H} {g : Nat → Nat → Int} {L L1 L' : mLs} {st st1 st' rest as : List mV} {e : mE} {v : Option mV}
theorem cx_R.up (R : cx_R lo Ls h H) (t : cx_T) : cx_R H.1 Ls h (H.1, t) := ⟨by have := R.1; have := R.2.1; omega, Nat.le_refl _, R.2.2.1, R.2.2.2.1, R.2.2.2.2.1, fun a j g1 g2 _ => absurd (show a < H.1 from g2) (by omega), fun a j g1 g2 _ => absurd (show a < H.1 from g2) (by omega)⟩
theorem cx_F.mono (hl : lo' ≤ lo) (F : cx_F lo h h1 c s) : cx_F lo' h h1 c s := ⟨F.1, F.2.1, fun b hb => F.2.2 b (by omega)⟩
theorem cx_mpf : ∀ (l : List (Nat × List (Option Nat))) (q j v : Nat), mPf l q j = some v → ∃ p ∈ l, p.1 = q ∧ p.2.getD j none = some v
  | [], q, j, v, h => by cases h
  | p :: l, q, j, v, h => by
    have h : (bif Nat.beq p.1 q then p.2.getD j none else mPf l q j) = some v := h
    cases e : Nat.beq p.1 q
    · rw [e] at h
      obtain ⟨p', h1, h2⟩ := cx_mpf l q j v h
      exact ⟨p', List.mem_cons_of_mem _ h1, h2⟩
    · rw [e] at h
      exact ⟨p, List.mem_cons_self, Nat.eq_of_beq_eq_true e, h⟩
theorem cx_gdl {l : List (Option Nat)} {v : Nat} (h : l.getD j none = some v) : j < l.length := by
  by_cases hj : j < l.length
  · exact hj
  · rw [List.getD_eq_getElem?_getD, List.getElem?_eq_none (by omega)] at h
    cases h
/-- what the class's constructor leaves -/
def cx_P1 (g : Nat → Nat → Int) : Prop :=
  (∀ a, a < 480 → cx_S a = 88 → g a 0 = ((a + 1 : Nat) : Int) ∧ g a 1 = ((cx_rw a).length : Int) ∧ (cx_rw a).length ≤ cx_S (a + 1) / 32 ∧ ∀ i, i < (cx_rw a).length → g (a + 1) i = (cx_rw a).getD i 0) ∧
  (∀ q j v, q < 480 → mPtr q j = some v → g q j = (v : Int)) ∧ (∀ i, i < 48 → g 4 i = -1 ∧ g 5 i = -1) ∧ (∀ i, i < 12 → g 34 i = 0) ∧
  (∀ X, X < 3 → (∀ j, j < 3 → g (273 + 29 * X + 21) j = 0) ∧ g (295 + 29 * X) 3 = 0) ∧
  (∀ i, i < 24 → g (360 + 5 * i) 3 = 0 ∧ g (360 + 5 * i) 4 = 0 ∧ g (360 + 5 * i) 7 = -1 ∧ g (360 + 5 * i) 8 = 0) ∧
  g 3 2 = 0 ∧ g 2 4 = 0 ∧ g 2 9 = 0 ∧ g 2 13 = 12 ∧ g 2 14 = 10
theorem cx_c1' (K : ∀ q j v, cx_is 2 H q j v = true → g q j = v) (hc : cx_c1 H = true) : cx_P1 g := by
  obtain ⟨a1, hc⟩ := cx_cnd hc
  obtain ⟨a2, hc⟩ := cx_cnd hc
  obtain ⟨a3, hc⟩ := cx_cnd hc
  obtain ⟨a4, hc⟩ := cx_cnd hc
  obtain ⟨a5, hc⟩ := cx_cnd hc
  obtain ⟨a6, hc⟩ := cx_cnd hc
  obtain ⟨b1, hc⟩ := cx_cnd hc
  obtain ⟨b2, hc⟩ := cx_cnd hc
  obtain ⟨b3, hc⟩ := cx_cnd hc
  obtain ⟨b4, b5⟩ := cx_cnd hc
  refine ⟨fun a ha h8 => ?_, fun q j v hq hv => ?_, fun i hi => ?_, fun i hi => K _ _ _ (cx_for' a4 i hi), fun X hX => ?_, fun i hi => ?_, K _ _ _ b1, K _ _ _ b2, K _ _ _ b3, K _ _ _ b4, K _ _ _ b5⟩
  · have h1 := cx_for' a1 a ha
    rw [h8] at h1
    obtain ⟨d1, h1⟩ := cx_cnd h1
    obtain ⟨d2, h1⟩ := cx_cnd h1
    obtain ⟨d3, d4⟩ := cx_cnd h1
    exact ⟨K _ _ _ d1, K _ _ _ d2, Nat.le_of_ble_eq_true d3, fun i hi => K _ _ _ (cx_for' d4 i hi)⟩
  · obtain ⟨p, p1, p2, p3⟩ := cx_mpf _ _ _ _ hv
    have h1 := List.all_eq_true.mp a2 p p1
    rw [show Nat.blt p.1 480 = true from Nat.ble_eq_true_of_le (by omega)] at h1
    have h2 := cx_for' h1 j (cx_gdl p3)
    rw [p3, p2] at h2
    exact K _ _ _ h2
  · obtain ⟨d1, d2⟩ := cx_cnd (cx_for' a3 i hi)
    exact ⟨K _ _ _ d1, K _ _ _ d2⟩
  · obtain ⟨d1, d2⟩ := cx_cnd (cx_for' a5 X hX)
    exact ⟨fun j hj => K _ _ _ (cx_for' d1 j hj), K _ _ _ d2⟩
  · obtain ⟨d1, h1⟩ := cx_cnd (cx_for' a6 i hi)
    obtain ⟨d2, h1⟩ := cx_cnd h1
    obtain ⟨d3, d4⟩ := cx_cnd h1
    exact ⟨K _ _ _ d1, K _ _ _ d2, K _ _ _ d3, K _ _ _ d4⟩
/-- a piece of the law's own run -/
def cx_Rc (pc : Nat) (L : mLs) (st : List mV) (h : mH) (pc' : Nat) (L' : mLs) (st' : List mV) (h' : mH) (c s : Nat) : Prop := ∀ (f : Nat) (r : mR), mrun mPg f 364 pc' L' st' h' = some r → ∃ g, mrun mPg g 364 pc L st h = some (r.1, r.2.1, c + r.2.2.1, s + r.2.2.2)
theorem cx_Rc.rf (pc : Nat) (L : mLs) (st : List mV) (h : mH) : cx_Rc pc L st h pc L st h 0 0 := fun f r hr => ⟨f, by rw [Nat.zero_add, Nat.zero_add]; exact hr⟩
theorem cx_Rc.sp (he : mPg.1 364 pc = some e) (hs : mstep mPg.2.2.2.1 mPg.2.2.2.2 e pc L st h = some (.inl (pc1, L1, st1, h1, c1, s1))) (K : cx_Rc pc1 L1 st1 h1 pc' L' st' h' c s) : cx_Rc pc L st h pc' L' st' h' (c1 + c) (s1 + s) := by
  intro f r hr
  obtain ⟨g, hg⟩ := K f r hr
  refine ⟨g + 1, ?_⟩
  unfold mrun
  rw [he]
  dsimp only
  rw [hs]
  dsimp only
  rw [hg]
  simp only [mbump, Nat.add_assoc]
theorem cx_Rc.mv (he : mPg.1 364 pc = some e) (hs : mstep mPg.2.2.2.1 mPg.2.2.2.2 e pc L st h = some (.inl (pc1, L1, st1, h1, 0, 0))) (K : cx_Rc pc1 L1 st1 h1 pc' L' st' h' c s) : cx_Rc pc L st h pc' L' st' h' c s := by
  have := cx_Rc.sp he hs K
  rw [Nat.zero_add, Nat.zero_add] at this
  exact this
theorem cx_Rc.cl {f0 : Nat} (he : mPg.1 364 pc = some e) (hs : mstep mPg.2.2.2.1 mPg.2.2.2.2 e pc L st h = some (.inr (.inl (k', as, rest)))) (hk : mrun mPg f0 k' 0 (mentry as (mPg.2.2.1 k')) [] h = some (.inl v, h1, c1, s1)) (K : cx_Rc (pc + 3) L (v.toList ++ rest) h1 pc' L' st' h' c s) : cx_Rc pc L st h pc' L' st' h' (c1 + c) (s1 + s) := by
  intro f r hr
  obtain ⟨g, hg⟩ := K f r hr
  refine ⟨max f0 g + 1, ?_⟩
  unfold mrun
  rw [he]
  dsimp only
  rw [hs]
  dsimp only
  rw [mrun_mono f0 _ _ _ _ _ _ hk (max f0 g) (Nat.le_max_left _ _)]
  dsimp only
  rw [mrun_mono g _ _ _ _ _ _ hg (max f0 g) (Nat.le_max_right _ _)]
  simp only [mbump, Nat.add_assoc]
theorem cx_mnw {kd m pc : Nat} {d : Nat → Int} {st : Nat → List mV} (ht : h.2.2 = true) (hl : h.1.length = m) (he : h1 = (h.1 ++ [(kd, n)], (fun b i => if b = h.1.length then d i else h.2.1 b i), true)) : mpay n (mnew h kd n d fun q h' => mnx pc L (st q) h') = some (.inl (pc, L, st m, h1, 0 + 1, 0 + n)) := by
  unfold mnew
  rw [if_pos ht, he, ← hl]
  rfl
theorem cx_R.nw2 {kd : Nat} {d : Nat → Int} {u : cx_T} (R : cx_R lo Ls h H) (hn : H.1 < 483) (hs : cx_S H.1 = kd + 32 * n) (hk : kd < 32) (hu : ∀ i, i < n → cx_lf (cx_gt 10 u i) = d i) (hd : ∀ i, d i = 0 ∨ d i = -1) : ∃ h' : mH, h' = (h.1 ++ [(kd, n)], (fun b i => if b = h.1.length then d i else h.2.1 b i), true) ∧ h.1.length = H.1 ∧ cx_R lo Ls h' (H.1 + 1, cx_st 10 H.2 H.1 u) ∧ cx_F lo h h' 1 n := ⟨_, rfl, R.new hn hs hk hu hd⟩
theorem cx_rows : ∀ a, a < 483 → mShp[a]? = some (24, 2) → a < 480 := by decide +kernel
theorem cx_sum : (mShp.tail.map (fun p => p.2)).sum = 17208 := by decide +kernel
theorem cx_pt : ∀ p ∈ mPts, p.1 < 480 := by decide +kernel
theorem cx_rw32 : ∀ a, a < 480 → ∀ x ∈ cx_rw a, -2147483648 ≤ x ∧ x < 2147483648 := by decide +kernel
theorem cx_rwn (h1 : ¬ (12 ≤ a ∧ a < 34)) (h2 : ¬ (273 ≤ a ∧ a < 353)) : cx_rw a = [] := by
  unfold cx_rw
  rw [if_neg h1, if_neg (by omega), if_neg (by omega), if_neg (by omega)]
theorem cx_rep {σ : Sg} (hL : h.1 = (0, Ls) :: mShp.tail) (h1 : σ = (cx_rw, h.2.1)) (P1 : cx_P1 h.2.1) (h0 : ∀ i, in32 (h.2.1 0 i)) (hk : ∀ j, j < 4 → h.2.1 1 j = ([1, 1, 2, 3] : List Int).getD j 0) : rep Ls h σ := by
  rw [h1]
  refine ⟨hL, fun a n hr => ?_, fun q j v hv => ?_, fun q j _ _ => rfl, h0, hk⟩
  · obtain ⟨r1, r2, r3⟩ := hr
    have e1 := cx_S_of r2
    have e2 := cx_S_of r3
    have ha : a < 480 := by
      have hl := (List.getElem?_eq_some_iff.mp r2).1
      rw [cx_len] at hl
      exact cx_rows a hl r2
    obtain ⟨g1, g2, g3, g4⟩ := P1.1 a ha (by omega)
    have g5 : (cx_rw a).length ≤ n := by omega
    exact ⟨g1, g2, g5, g4, cx_rw32 a ha⟩
  · by_cases hq : q < 480
    · exact P1.2.1 q j v hq hv
    · exfalso
      obtain ⟨p, p1, p2, p3⟩ := cx_mpf _ _ _ _ hv
      have := cx_pt p p1
      omega
theorem cx_LI {σ : Sg} (h1 : σ = (cx_rw, g)) (P1 : cx_P1 g) (h5 : ∀ j, j < 24 → g 482 j = 0) : LI σ 0 0 0 := by
  rw [h1]
  obtain ⟨-, -, a3, a4, a5, a6, b1, b2, b3, b4, b5⟩ := P1
  have i1 : in32 (-1) := ⟨by decide, by decide⟩
  have i0 : in32 0 := ⟨by decide, by decide⟩
  have nn : ∀ {α : Type} {P : α → Prop}, ∀ x ∈ ([] : List α), P x := fun x hx => absurd hx List.not_mem_nil
  have hru : okRu D0 [] := ⟨by decide, by decide, by decide, nn⟩
  have hcn : cnB (fun _ => -1) 8 = 0 := by decide
  have hX3 : ∀ X, X < 3 → X = 0 ∨ X = 1 ∨ X = 2 := fun X hX => by omega
  refine ⟨fun _ => -1, fun _ => -1, [], [], [], fun _ => D0, fun _ _ => 0, fun _ => [], fun _ => 0, [], fun _ => [], [], [], fun _ => [], [], [], 10, 12, ⟨?_, ?_⟩, ⟨rfl, fun _ => rfl, nn, nn, ⟨fun k hk => absurd hk (Nat.not_lt_zero k), fun k _ hk => h5 k hk⟩, Nat.zero_le _, Nat.zero_le _⟩, rfl, rfl, rfl⟩
  · refine ⟨⟨fun s _ _ h => absurd rfl h, fun s s' _ _ _ _ h => absurd rfl h, fun _ => i1, fun _ => i1, fun _ _ => rfl⟩, ⟨Nat.zero_le _, nn⟩, ⟨Nat.zero_le _, nn⟩, ⟨Nat.zero_le _, nn⟩, fun X _ => hru, ⟨Nat.zero_le _, nn, fun i hi => absurd hi (Nat.not_lt_zero i)⟩, nn, nn, fun X _ => ⟨Nat.zero_le _, nn⟩, ⟨Nat.zero_le _, rfl, nn, nn, fun i _ => ⟨Nat.zero_le _, nn⟩⟩, okPins_nil, by decide, by decide, by decide⟩
  · refine ⟨⟨⟨?_, ?_⟩, ?_⟩, ⟨rfl, rfl⟩, ⟨b2, fun i hi => absurd hi (Nat.not_lt_zero i)⟩, ⟨fun X hX => ⟨okTD_0, ?_, fun j hj => ⟨(a5 X hX).1 j hj, Or.inl rfl⟩, Or.inl (a5 X hX).2⟩, fun X hX => ?_, fun X hX => ?_⟩, fun l hl => ⟨a4 l hl, Or.inl rfl⟩, ⟨b3, fun i hi => absurd hi (Nat.not_lt_zero i), fun i hi => ?_⟩, ⟨rfl, rfl, fun i hi => cx_rwn (by omega) (by omega)⟩, ⟨rfl, rfl⟩, b4, b5⟩
    · funext s
      unfold bOf
      split
      · exact (a3 s.toNat (by omega)).1
      · rfl
    · funext s
      unfold kOf
      split
      · exact (a3 s.toNat (by omega)).2
      · rfl
    · show g 3 2 = ((cnB (fun _ => -1) 8 : Nat) : Int)
      rw [hcn]
      exact b1
    · rcases hX3 X hX with rfl | rfl | rfl <;> exact ⟨rfl, rfl, rfl, rfl, rfl, rfl, rfl⟩
    · rcases hX3 X hX with rfl | rfl | rfl <;> exact ⟨rfl, rfl, rfl⟩
    · rcases hX3 X hX with rfl | rfl | rfl <;> exact rfl
    · obtain ⟨k1, k2, k3, k4⟩ := a6 i hi
      exact ⟨k1, k2, k3, k4, cx_rwn (by omega) (by omega)⟩
/-- the law's entry up to what is behind the constructors -/
def Bld : Prop := ∀ (L : Nat) (xs : Nat → Int32), L ≤ 260 → ∃ (h : mH) (σ : Sg), rep L h σ ∧ LI σ 0 0 0 ∧ ∀ (f : Nat) (r : mR), mrun mPg f 364 33 [some (mP (some 0)), some (mP (some 2)), some (mP (some 480)), some (mP (some 481)), some (mP (some 482)), some (mI 0), some (mI 0), some (mI 0), none, none, none, none, none, none, none, none, none, none, none, none, none] [] h = some r → ∃ (g c s : Nat), c ≤ 481 ∧ s ≤ 30000 ∧ mrun mPg g 364 0 (mentry [mP (some 0)] 21) [] (mh0 L xs) = some (r.1, r.2.1, c + r.2.2.1, s + r.2.2.2)
theorem cx_bld : Bld := by
  intro Ln xs hL
  have R0 : cx_R 2 Ln (mh0 Ln xs) (2, .num 0) := ⟨Nat.le_refl _, Nat.le_refl _, by decide, rfl, rfl, fun a j g1 g2 _ => absurd (show a < 2 from g2) (by omega), fun a j g1 g2 _ => absurd (show a < 2 from g2) (by omega)⟩
  have hu : ∀ c i, i < mnf c → cx_lf (cx_gt 10 (cx_bl 10 0 1 (mfd c)) i) = mfd c i := fun c i hi => by
    have := cx_mnf c
    rw [cx_gb _ 10 0 1 i (by omega), show 0 + 1 * i = i by omega]
    rfl
  obtain ⟨ha, ea, la, Ra, Fa⟩ := R0.nw2 (kd := 26) (n := 20) (d := mfd 10) (u := cx_bl 10 0 1 (mfd 10)) (by decide) (cx_S_of (a := 2) rfl) (by decide) (fun i hi => hu 10 i hi) (cx_mfd 10)
  obtain ⟨H1, hrun1, en1, ec1⟩ := cx_fin' cx_k1_ok
  obtain ⟨f1, h1, c1, s1, q1, R1, F1⟩ := cx_run_sim cx_hk' _ _ _ _ _ _ _ _ hrun1 _ Ra
  have R1u : cx_R 480 Ln h1 (480, .num 0) := by
    have := R1.up (.num 0)
    rw [en1] at this
    exact this
  obtain ⟨h2, e2, l2, R2, F2⟩ := R1u.nw2 (kd := 0) (n := 24) (d := fun _ => 0) (u := .num 0) (by decide) (cx_S_of (a := 480) (by decide +kernel)) (by decide) (fun i _ => rfl) (fun _ => Or.inl rfl)
  have R2u : cx_R 481 Ln h2 (481, .num 0) := R2.up (.num 0)
  obtain ⟨h3, e3, l3, R3, F3⟩ := R2u.nw2 (kd := 0) (n := 24) (d := fun _ => 0) (u := .num 0) (by decide) (cx_S_of (a := 481) (by decide +kernel)) (by decide) (fun i _ => rfl) (fun _ => Or.inl rfl)
  have R3u : cx_R 482 Ln h3 (482, .num 0) := R3.up (.num 0)
  obtain ⟨h4, e4, l4, R4, F4⟩ := R3u.nw2 (kd := 0) (n := 24) (d := fun _ => 0) (u := .num 0) (by decide) (cx_S_of (a := 482) (by decide +kernel)) (by decide) (fun i _ => rfl) (fun _ => Or.inl rfl)
  have hG := ((F2.trans (F3.mono (by decide : 480 ≤ 481))).trans (F4.mono (by decide : 480 ≤ 482)))
  have hF := (Fa.trans F1).trans (hG.mono (by decide : 2 ≤ 480))
  have hsh : h4.1 = (0, Ln) :: mShp.tail := by
    rw [R4.2.2.2.1]
    show cx_sh Ln (482 + 1) = _
    unfold cx_sh
    rw [List.take_of_length_le (by rw [List.length_cons, List.length_tail, cx_len]; decide)]
  have K1 : ∀ q j v, cx_is 2 H1 q j v = true → h4.2.1 q j = v := fun q j v hi => by
    have hq : q < 480 := by
      obtain ⟨-, x2⟩ := cx_cnd hi
      obtain ⟨x2, -⟩ := cx_cnd x2
      rw [← en1]
      exact Nat.le_of_ble_eq_true x2
    rw [hG.2.2 q hq]
    exact cx_is' R1 hi
  have P1 := cx_c1' K1 ec1
  have h01 : ∀ q, q < 2 → h4.2.1 q = (mh0 Ln xs).2.1 q := hF.2.2
  have hx : ∀ i, in32 (h4.2.1 0 i) := fun i => by
    rw [h01 0 (by decide)]
    show in32 (xs i).toInt
    have g1 := Int32.le_toInt (xs i)
    have g2 := Int32.toInt_lt (xs i)
    exact ⟨by omega, by omega⟩
  have hk : ∀ j, j < 4 → h4.2.1 1 j = ([1, 1, 2, 3] : List Int).getD j 0 := fun j _ => by
    rw [h01 1 (by decide)]
    rfl
  have h5 : ∀ j, j < 24 → h4.2.1 482 j = 0 := fun j hj => by
    rw [e4]
    show (if 482 = h3.1.length then (0 : Int) else h3.2.1 482 j) = 0
    rw [if_pos l4.symm]
  have hcs : 1 + c1 + (1 + 1 + 1) ≤ 481 ∧ 20 + s1 + (24 + 24 + 24) ≤ 30000 := by
    obtain ⟨y1, y2, -⟩ := hF
    rw [hsh] at y1 y2
    have y3 : mShp.tail.length = 482 := by rw [List.length_tail, cx_len]
    have y4 : (mh0 Ln xs).1.length = 2 := rfl
    have y5 : ((mh0 Ln xs).1.map (fun p => p.2)).sum = Ln + (4 + 0) := rfl
    rw [List.length_cons] at y1
    rw [List.map_cons, List.sum_cons, cx_sum, y5] at y2
    dsimp only at y2
    omega
  have e24 : m32 24 = 24 := m32_of ⟨by decide, by decide⟩
  have hn : ∀ (m pc : Nat) (h h' : mH) (Lx : mLs), h.2.2 = true → h.1.length = m → h' = (h.1 ++ [(0, 24)], (fun b i => if b = h.1.length then (0 : Int) else h.2.1 b i), true) → mstep mPg.2.2.2.1 mPg.2.2.2.2 (.newarray .int, 2, 0, 0, 0) pc Lx [mI 24] h = some (.inl (pc + 2, Lx, [mP (some m)], h', 0 + 1, 0 + 24)) := fun m pc h h' Lx g1 g2 g3 => by
    show (if 0 ≤ m32 24 ∧ m32 24 < 100000 ∧ mkArr .int ≤ 2 then mpay (m32 24).toNat (mnew h (mkArr .int) (m32 24).toNat (fun _ => 0) fun q h' => mnx (pc + 2) Lx (mP (some q) :: []) h') else none) = _
    rw [e24, if_pos ⟨by decide, by decide, by decide⟩]
    exact cx_mnw (m := m) (n := 24) (kd := 0) (st := fun q => [mP (some q)]) g1 g2 g3
  have hrun : cx_Rc 0 (mentry [mP (some 0)] 21) [] (mh0 Ln xs) 33 [some (mP (some 0)), some (mP (some 2)), some (mP (some 480)), some (mP (some 481)), some (mP (some 482)), some (mI 0), some (mI 0), some (mI 0), none, none, none, none, none, none, none, none, none, none, none, none, none] [] h4 (0 + 1 + (c1 + (0 + 1 + (0 + 1 + (0 + 1 + 0))))) (0 + 20 + (s1 + (0 + 24 + (0 + 24 + (0 + 24 + 0))))) := by
    refine cx_Rc.sp rfl (cx_mnw (m := 2) (n := 20) (kd := 26) (d := mfd 10) (pc := 3) (st := fun q => [mP (some q)]) rfl rfl ea) ?_
    refine cx_Rc.mv rfl rfl ?_
    refine cx_Rc.cl rfl rfl q1 ?_
    iterate 2 (refine cx_Rc.mv rfl rfl ?_)
    refine cx_Rc.sp rfl (hn 480 10 h1 h2 _ R1.2.2.2.2.1 l2 e2) ?_
    iterate 2 (refine cx_Rc.mv rfl rfl ?_)
    refine cx_Rc.sp rfl (hn 481 15 h2 h3 _ R2.2.2.2.2.1 l3 e3) ?_
    iterate 2 (refine cx_Rc.mv rfl rfl ?_)
    refine cx_Rc.sp rfl (hn 482 20 h3 h4 _ R3.2.2.2.2.1 l4 e4) ?_
    iterate 7 (refine cx_Rc.mv rfl rfl ?_)
    exact cx_Rc.rf _ _ _ _
  refine ⟨h4, (cx_rw, h4.2.1), cx_rep hsh rfl P1 hx hk, cx_LI rfl P1 h5, fun f r hr => ?_⟩
  obtain ⟨g, hg⟩ := hrun f r hr
  exact ⟨g, _, _, by omega, by omega, hg⟩
theorem lawRuns_p : LawRuns := fun L xs hL => by
  obtain ⟨h, σ, hr, hR, hrun⟩ := cx_bld L xs hL
  obtain ⟨f, o, h', c, s, σ', e1, e2, e3, e4, e5⟩ := law_33 hL hR h hr
  obtain ⟨g, c0, s0, g1, g2, g3⟩ := hrun f _ e1
  refine ⟨g, h', c0 + c, s0 + s, ?_, by omega, by omega⟩
  rw [g3, ← e5]
end BORN
