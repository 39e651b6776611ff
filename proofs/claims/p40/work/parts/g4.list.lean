/-! The law's isList. -/
section LIST
variable {Ls N k pc n a b d X j : Nat} {L : mLs} {r : List mV} {σ σ' σ0 σ1 σ2 : Sg} {post : tP} {i x y z v w s c : Int} {B M : Int → Int} {ds an dA t A A2 : List Int} {ws rs PA PB : List Int} {tx : List (List Int)} {D3 : Nat → TD} {o3 : Nat → Nat → Int} {R3 : Nat → RuT} {hd : Nat → Int} {en : List EnT} {bf : Nat → List Nat} {rd : Nat → List Int} {hh ww : Int} {v4 v5 v6 v7 v8 v9 v10 : Option mV} {D : TD}
theorem s_on0 (hA : Tr Ls 0 331 0 [some (mP (some 2)), some (mI w), some (mI i), some (mI x), some (mI y)] [] σ (onP post)) : Tr Ls N 332 0 [some (mP (some 2)), some (mI w), some (mI i), some (mI x), some (mI y), none] [] σ post := by
  iterate 5 (refine tr_mv rfl (fun _ => rfl) ?_)
  refine tr_stat rfl rfl rfl (tr_post hA ?_)
  intro o σ' ho
  match o, ho with
  | .inl v, ho =>
    obtain ⟨x, rfl, K⟩ := ho
    exact tr_ri rfl rfl K
  | .inr E, ho =>
    rcases ho with ⟨rfl, K⟩ | ⟨rfl, K⟩ | ⟨rfl, K⟩
    · refine tk_ex rfl rfl ?_
      iterate 1 (refine tr_mv rfl (fun _ => rfl) ?_)
      exact tr_ri rfl rfl K
    · refine tk_ex rfl rfl ?_
      iterate 1 (refine tr_mv rfl (fun _ => rfl) ?_)
      exact tr_ri rfl rfl K
    · refine tk_ex rfl rfl ?_
      iterate 1 (refine tr_mv rfl (fun _ => rfl) ?_)
      exact tr_ri rfl rfl K
theorem p_10v (h : StC σ B M ds an tx D3 o3 R3 hd en bf ws rs rd PA PB hh ww) (hX : X < 3) (hj : in32 (j : Int)) (hl : j < (D3 X).1.length) (K : post (.inl (some (mI (1000000 * (D3 X).2.1.getD j 0 + (D3 X).1.getD j 0)))) σ) : Tr Ls N 332 0 [some (mP (some 2)), some (mI 10), some (mI (X : Int)), some (mI (j : Int)), some (mI z), none] [] σ post := by
  refine s_on0 ?_
  repeat (refine tr_mv rfl (fun _ => rfl) ?_)
  refine tr_vc (q := 2) rfl ⟨by decide, by decide +kernel⟩ rfl rfl rfl (tr_nox (M := 1) (by decide) (q_150 (N := 0) h hX hj (fun g => absurd hl g) (fun g => ⟨⟨_, rfl⟩, ?_⟩)))
  repeat (refine tr_mv rfl (fun _ => rfl) ?_)
  exact tr_ri rfl rfl ⟨_, rfl, K⟩
theorem cd6 (h : okCd c) (h2 : canBe c ∨ (29 ≤ c ∧ c ≤ 40)) : c < 1000000 := by
  refine Decidable.byContradiction fun g => ?_
  rcases h2 with ⟨g1, g2, g3, g4⟩ | g1
  · have s3 : sgIn c = 3 := by
      unfold sgIn
      rw [if_neg (by omega), if_neg (by omega), if_neg (by omega)]
    have a0 : sgAt c 0 = c / 10000 % 100 - 1 := by
      unfold sgAt
      rw [s3, if_pos (by decide)]
    have a1 : sgAt c 1 = c / 100 % 100 - 1 := by
      unfold sgAt
      rw [s3, if_neg (by decide), if_pos (by decide)]
    have a2 : sgAt c 2 = c % 100 - 1 := by
      unfold sgAt
      rw [s3, if_neg (by decide), if_neg (by decide)]
    have g5 := g3 (by omega)
    have g6 := g4 (by omega)
    rw [a0] at g2
    rw [a1] at g5
    rw [a2] at g6
    omega
  · omega
/-- an item as it is told -/
theorem itm_ok (hD : okTD D) (hk : k < D.1.length) : (1 ≤ D.2.1.getD k 0 ∧ D.2.1.getD k 0 ≤ 4) ∧ (1 ≤ D.1.getD k 0 ∧ D.1.getD k 0 < 1000000) ∧ (k = 0 → D.2.1.getD k 0 = 1) := by
  have h1 := hD.2.2.2.2.2.2.1 (D.2.1.getD k 0) (getD_mem (by have := hD.1; omega))
  have h2 := hD.2.2.2.2.2.2.2.2.1 (D.1.getD k 0) (getD_mem hk)
  refine ⟨h1, ⟨by have := h2.1; omega, cd6 h2.1 h2.2⟩, fun e => ?_⟩
  subst e
  have h3 := hD.2.2.2.2.2.2.2.1
  cases hl : D.2.1 with
  | nil => rw [hl] at h3; cases h3
  | cons l ls =>
    rw [hl] at h3
    cases h3
    rfl
theorem itm_ne (hD : okTD D) (hk : k < D.1.length) (hj : j < k) : D.1.getD j 0 ≠ D.1.getD k 0 := by
  intro e
  rw [List.getD_eq_getElem?_getD, List.getD_eq_getElem?_getD, List.getElem?_eq_getElem hk, List.getElem?_eq_getElem (by omega : j < D.1.length)] at e
  have := (List.getElem_inj hD.2.2.2.1).mp (show D.1[j] = D.1[k] from e)
  omega
/-- a list has 24 items and more -/
theorem itm_len (hD : okTD D) : 24 ≤ D.1.length := by
  have h12 := hD.2.2.1
  have hs := hD.2.2.2.2.2.2.2.2.2.2.2.1
  have hg := hD.2.2.2.2.2.2.2.2.2.2.2.2.1
  have hn : ((List.range 36).map (fun (q : Nat) => if q < 24 then ((q : Int) + 1) else ((q : Int) + 5))).Nodup := by decide
  have hsub : ∀ x ∈ (List.range 36).map (fun (q : Nat) => if q < 24 then ((q : Int) + 1) else ((q : Int) + 5)), x ∈ D.1 ++ D.2.2.1 := by
    intro x hx
    obtain ⟨q, hq, rfl⟩ := List.mem_map.mp hx
    have hq2 := List.mem_range.mp hq
    refine List.mem_append.mpr ?_
    by_cases c : q < 24
    · rw [if_pos c]
      exact hs (q : Int) (by omega)
    · rw [if_neg c]
      exact Or.inl (hg _ (by omega) (by omega))
  have := sub_len hn hsub
  rw [List.length_map, List.length_range, List.length_append] at this
  omega
theorem s_335_in (h : StC σ B M ds an tx D3 o3 R3 hd en bf ws rs rd PA PB hh ww) (hX : X < 3) (hk : k < (D3 X).1.length)
    (K : ∀ v6, Tr Ls N 335 112 [some (mP (some 2)), some (mI (X : Int)), some (mI (k : Int)), some (mI 1), some (mI (1000000 * (D3 X).2.1.getD k 0 + (D3 X).1.getD k 0)), some (mI z), v6] [] σ post) :
    ∀ (m j : Nat), m + j = k → Tr Ls N 335 61 [some (mP (some 2)), some (mI (X : Int)), some (mI (k : Int)), some (mI 1), some (mI (1000000 * (D3 X).2.1.getD k 0 + (D3 X).1.getD k 0)), some (mI z), some (mI (j : Int))] [] σ post := by
  have hD := (h.2.2.2.2.1.1 X hX).1
  have h48 := hD.2.1
  obtain ⟨k1, k2, k3⟩ := itm_ok hD hk
  intro m
  induction m with
  | zero =>
    intro j hj
    iterate 2 (refine tr_mv rfl (fun _ => rfl) ?_)
    refine tr_cmp2 rfl (m32_of (by omega)) (m32_of (by omega)) (fun c1 => ?_) (fun c1 => ?_)
    · exact K _
    · exfalso
      omega
  | succ m ih =>
    intro j hj
    obtain ⟨j1, j2, j3⟩ := itm_ok hD (show j < (D3 X).1.length by omega)
    have hne := itm_ne hD hk (show j < k by omega)
    iterate 2 (refine tr_mv rfl (fun _ => rfl) ?_)
    refine tr_cmp2 rfl (m32_of (by omega)) (m32_of (by omega)) (fun c1 => ?_) (fun c1 => ?_)
    · exfalso
      omega
    iterate 6 (refine tr_mv rfl (fun _ => rfl) ?_)
    refine tr_cmp rfl (fun c2 => ?_) (fun c2 => ?_)
    · exact K _
    iterate 5 (refine tr_mv rfl (fun _ => rfl) ?_)
    refine tr_stat rfl rfl rfl (p_10v h hX (by omega) (by omega) ?_)
    iterate 1 (refine tr_mv rfl (fun _ => rfl) ?_)
    refine tr_rem (y := 1000000) (by omega) (by omega) rfl ?_
    iterate 2 (refine tr_mv rfl (fun _ => rfl) ?_)
    refine tr_rem (y := 1000000) (by omega) (by omega) rfl ?_
    refine tr_cmp2 rfl (m32_of (by omega)) (m32_of (by omega)) (fun c3 => ?_) (fun c3 => ?_)
    · exfalso
      omega
    iterate 5 (refine tr_mv rfl (fun _ => rfl) ?_)
    have := ih (j + 1) (by omega)
    rw [show ((j + 1 : Nat) : Int) = (j : Int) + 1 by omega] at this
    exact this
theorem s_335_end (hk : 24 ≤ k ∧ k ≤ 48) (K : post (.inl (some (mI 1))) σ) : Tr Ls N 335 129 [some (mP (some 2)), some (mI (X : Int)), some (mI (k : Int)), some (mI 1), v4, v5, v6] [] σ post := by
  iterate 4 (refine tr_mv rfl (fun _ => rfl) ?_)
  refine tr_cmp2 rfl (m32_of (by omega)) (m32_of (by omega)) (fun c1 => ?_) (fun c1 => ?_)
  · exfalso
    omega
  iterate 2 (refine tr_mv rfl (fun _ => rfl) ?_)
  refine tr_cmp2 rfl (m32_of (by omega)) (m32_of (by omega)) (fun c2 => ?_) (fun c2 => ?_)
  · exfalso
    omega
  iterate 2 (refine tr_mv rfl (fun _ => rfl) ?_)
  exact tr_reti rfl (Or.inr (Or.inr rfl)) K
/-- behind the item k, all told -/
theorem s_335_nx (h : StC σ B M ds an tx D3 o3 R3 hd en bf ws rs rd PA PB hh ww) (hX : X < 3) (K1 : ¬ k + 1 < (D3 X).1.length → ∀ v5 v6, Tr Ls N 335 15 [some (mP (some 2)), some (mI (X : Int)), some (mI ((k + 1 : Nat) : Int)), some (mI 1), some (mI (-11)), v5, v6] [] σ post)
    (K2 : k + 1 < (D3 X).1.length → ∀ v5 v6, Tr Ls (N + 1) 335 15 [some (mP (some 2)), some (mI (X : Int)), some (mI ((k + 1 : Nat) : Int)), some (mI 1), some (mI (1000000 * (D3 X).2.1.getD (k + 1) 0 + (D3 X).1.getD (k + 1) 0)), v5, v6] [] σ post) (hk : k < 48) :
    Tr Ls (N + 1) 335 112 [some (mP (some 2)), some (mI (X : Int)), some (mI (k : Int)), some (mI 1), v4, v5, v6] [] σ post := by
  rw [show ((k + 1 : Nat) : Int) = (k : Int) + 1 by omega] at K1 K2
  iterate 6 (refine tr_mv rfl (fun _ => rfl) ?_)
  rw [show (k : Int) + 1 = ((k + 1 : Nat) : Int) by omega] at *
  by_cases c : k + 1 < (D3 X).1.length
  · refine tr_stat rfl rfl rfl (p_10v h hX (by omega) c ?_)
    iterate 2 (refine tr_mv rfl (fun _ => rfl) ?_)
    exact K2 c _ _
  · refine tr_stat1 rfl rfl rfl (p_10 (N := 0) h hX (by omega) (fun _ => ?_) (fun g => absurd g c))
    iterate 2 (refine tr_mv rfl (fun _ => rfl) ?_)
    exact K1 c _ _
theorem s_335_lp (h : StC σ B M ds an tx D3 o3 R3 hd en bf ws rs rd PA PB hh ww) (hX : X < 3) (K : post (.inl (some (mI 1))) σ) :
    ∀ (m k : Nat) (v5 v6 : Option mV), m + k + 1 = (D3 X).1.length → Tr Ls (N + 1) 335 15 [some (mP (some 2)), some (mI (X : Int)), some (mI (k : Int)), some (mI 1), some (mI (1000000 * (D3 X).2.1.getD k 0 + (D3 X).1.getD k 0)), v5, v6] [] σ post := by
  have hD := (h.2.2.2.2.1.1 X hX).1
  have h48 := hD.2.1
  have h24 := itm_len hD
  intro m
  induction m with
  | zero =>
    intro k v5 v6 hk
    obtain ⟨k1, k2, k3⟩ := itm_ok hD (show k < (D3 X).1.length by omega)
    iterate 1 (refine tr_mv rfl (fun _ => rfl) ?_)
    refine tr_if2 rfl (m32_of (by omega)) (fun c1 => ?_) (fun c1 => ?_)
    · exfalso
      omega
    iterate 4 (refine tr_mv rfl (fun _ => rfl) ?_)
    refine tr_div (y := 1000000) (by omega) (by omega) rfl ?_
    iterate 2 (refine tr_mv rfl (fun _ => rfl) ?_)
    refine tr_if2 rfl (m32_of (by omega)) (fun c2 => ?_) (fun c2 => ?_)
    · exfalso
      omega
    iterate 2 (refine tr_mv rfl (fun _ => rfl) ?_)
    refine tr_cmp2 rfl (m32_of (by omega)) (m32_of (by omega)) (fun c3 => ?_) (fun c3 => ?_)
    · exfalso
      omega
    have key : Tr Ls (N + 1) 335 52 [some (mP (some 2)), some (mI (X : Int)), some (mI (k : Int)), some (mI 1), some (mI (1000000 * (D3 X).2.1.getD k 0 + (D3 X).1.getD k 0)), some (mI ((1000000 * (D3 X).2.1.getD k 0 + (D3 X).1.getD k 0) / 1000000)), v6] [] σ post := by
      iterate 5 (refine tr_mv rfl (fun _ => rfl) ?_)
      refine s_335_in h hX (show k < (D3 X).1.length by omega) (fun v6 => ?_) k 0 (Nat.add_zero _)
      refine s_335_nx h hX (fun g v5 v6 => ?_) (fun g => by omega) (by omega)
      iterate 2 (refine tr_mv rfl (fun _ => rfl) ?_)
      exact s_335_end (by omega) K
    iterate 1 (refine tr_mv rfl (fun _ => rfl) ?_)
    refine tr_if2 rfl (m32_of (by omega)) (fun c4 => ?_) (fun c4 => ?_)
    · exact key
    iterate 2 (refine tr_mv rfl (fun _ => rfl) ?_)
    refine tr_cmp2 rfl (m32_of (by omega)) (m32_of (by omega)) (fun c5 => ?_) (fun c5 => ?_)
    · exfalso
      have := k3 (by omega)
      omega
    exact key
  | succ m ih =>
    intro k v5 v6 hk
    obtain ⟨k1, k2, k3⟩ := itm_ok hD (show k < (D3 X).1.length by omega)
    iterate 1 (refine tr_mv rfl (fun _ => rfl) ?_)
    refine tr_if2 rfl (m32_of (by omega)) (fun c1 => ?_) (fun c1 => ?_)
    · exfalso
      omega
    iterate 4 (refine tr_mv rfl (fun _ => rfl) ?_)
    refine tr_div (y := 1000000) (by omega) (by omega) rfl ?_
    iterate 2 (refine tr_mv rfl (fun _ => rfl) ?_)
    refine tr_if2 rfl (m32_of (by omega)) (fun c2 => ?_) (fun c2 => ?_)
    · exfalso
      omega
    iterate 2 (refine tr_mv rfl (fun _ => rfl) ?_)
    refine tr_cmp2 rfl (m32_of (by omega)) (m32_of (by omega)) (fun c3 => ?_) (fun c3 => ?_)
    · exfalso
      omega
    have key : Tr Ls (N + 1) 335 52 [some (mP (some 2)), some (mI (X : Int)), some (mI (k : Int)), some (mI 1), some (mI (1000000 * (D3 X).2.1.getD k 0 + (D3 X).1.getD k 0)), some (mI ((1000000 * (D3 X).2.1.getD k 0 + (D3 X).1.getD k 0) / 1000000)), v6] [] σ post := by
      iterate 5 (refine tr_mv rfl (fun _ => rfl) ?_)
      refine s_335_in h hX (show k < (D3 X).1.length by omega) (fun v6 => ?_) k 0 (Nat.add_zero _)
      exact s_335_nx h hX (fun g => by omega) (fun g v5 v6 => ih (k + 1) v5 v6 (by omega)) (by omega)
    iterate 1 (refine tr_mv rfl (fun _ => rfl) ?_)
    refine tr_if2 rfl (m32_of (by omega)) (fun c4 => ?_) (fun c4 => ?_)
    · exact key
    iterate 2 (refine tr_mv rfl (fun _ => rfl) ?_)
    refine tr_cmp2 rfl (m32_of (by omega)) (m32_of (by omega)) (fun c5 => ?_) (fun c5 => ?_)
    · exfalso
      have := k3 (by omega)
      omega
    exact key
theorem s_335 (h : StC σ B M ds an tx D3 o3 R3 hd en bf ws rs rd PA PB hh ww) (hX : X < 3) (K : post (.inl (some (mI 1))) σ) : Tr Ls (N + 1) 335 0 [some (mP (some 2)), some (mI (X : Int)), none, none, none, none, none] [] σ post := by
  have hD := (h.2.2.2.2.1.1 X hX).1
  have h24 := itm_len hD
  iterate 9 (refine tr_mv rfl (fun _ => rfl) ?_)
  refine tr_stat rfl rfl rfl (p_10v (j := 0) h hX (by omega) (by omega) ?_)
  iterate 1 (refine tr_mv rfl (fun _ => rfl) ?_)
  exact s_335_lp h hX K ((D3 X).1.length - 1) 0 none none (by omega)
end LIST
