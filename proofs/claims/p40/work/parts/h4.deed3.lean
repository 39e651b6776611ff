/-! The law's deed of a rule. -/
section DEED3
variable {Ls N N1 k pc n a b c p q w tn tu Y t e X j ru m : Nat} {L : mLs} {r : List mV} {σ σ' σ0 σ1 σ2 : Sg} {post : tP} {i x y z v d : Int} {B M : Int → Int} {ds an dA A A2 : List Int} {ws rs PA PB : List Int} {tx : List (List Int)} {D3 : Nat → TD} {o3 : Nat → Nat → Int} {R3 : Nat → RuT} {hd : Nat → Int} {en : List EnT} {bf : Nat → List Nat} {rd : Nat → List Int} {hh ww : Int} {v11 v12 v13 v14 v15 v16 v17 v18 v19 v20 : Option mV}
theorem apA_len (hB : okBM B M) : ∀ (ds : List Int), (∀ s ∈ ds, 0 ≤ s ∧ s < 40) → (apA B M ds).length = ds.length := by
  intro ds hs
  unfold apA
  rw [sorted1_len]
  induction ds with
  | nil => rfl
  | cons s ds ih =>
    have h1 := hs s List.mem_cons_self
    have h2 := hB.2.2.2.2 s (by omega)
    have e : apart1 B M s = [s] := by
      unfold apart1
      dsimp only
      have e1 : (if B s ≠ -1 then B s else s) = s := if_neg (fun g => g h2)
      rw [e1, if_neg (fun g => g h2), if_neg (fun g => g h2), List.append_nil]
    rw [List.flatMap_cons, e, List.length_append, ih (fun s hs' => hs s (List.mem_cons_of_mem _ hs'))]
    show 1 + ds.length = ds.length + 1
    omega
theorem LDr.rul (h : LDr σ p q w t ru ds) (ht : t < 3) : ru ≤ 12 := by
  obtain ⟨B, M, an, tx, D3, o3, R3, hd, en, bf, ws, rs, rd, PA, PB, hh, ww, h, ⟨hru, -⟩, -⟩ := h
  rw [← hru]
  exact (h.1.rus t ht).1
theorem law_an (h : LDr σ p q w t ru ds) (hne : ds ≠ []) (hs : ∀ s ∈ ds, 0 ≤ s ∧ s < 40) (K : ∀ σ', LDr σ' p q w t ru [] → post (.inl (some (mI (ds.length : Int)))) σ') : Tr Ls (N + 1) 332 0 [some (mP (some 2)), some (mI 2), some (mI x), some (mI y), some (mI z), none] [] σ post := by
  obtain ⟨B, M, an, tx, D3, o3, R3, hd, en, bf, ws, rs, rd, PA, PB, hh, ww, h, ⟨hru, hrd, hrs, htx, hA, h12, h10⟩, hp, hq, hw⟩ := h
  refine p_2 h hne (fun σ' h' k' => ?_)
  rw [apA_len h.1.1 ds hs]
  exact K σ' ⟨_, _, _, _, _, _, _, _, _, _, _, _, _, _, _, _, _, h', ⟨hru, hrd, hrs, htx, hA.of k', h12, h10⟩, hp, hq, hw⟩
theorem law_ru (h : LDr σ p q w t ru ds) (ht : t < 3) (hx : 0 ≤ x ∧ x ≤ 7) (K1 : ∀ σ', LDr σ' p q w t ru ds → post (.inl (some (mI (-13)))) σ') (K2 : ∀ σ', LDr σ' p q w t (ru + 1) [] → post (.inl (some (mI ((ru : Int) + 1)))) σ') : Tr Ls (N + 1) 332 0 [some (mP (some 2)), some (mI 3), some (mI (t : Int)), some (mI x), some (mI z), none] [] σ post := by
  obtain ⟨B, M, an, tx, D3, o3, R3, hd, en, bf, ws, rs, rd, PA, PB, hh, ww, h, ⟨hru, hrd, hrs, htx, hA, h12, h10⟩, hp, hq, hw⟩ := h
  refine p_3 h ht hx (fun σ' h' k' => K1 σ' ⟨_, _, _, _, _, _, _, _, _, _, _, _, _, _, _, _, _, h', ⟨hru, hrd, hrs, htx, hA.of k', h12, h10⟩, hp, hq, hw⟩) (fun σ' D' R' b' g1 h' k' => ?_)
  rw [hru]
  exact K2 σ' ⟨_, _, _, _, _, _, _, _, _, _, _, _, _, _, _, _, _, h', ⟨by rw [upf_same, g1, hru], hrd, hrs, htx, hA.of k', h12, h10⟩, hp, hq, hw⟩
theorem law_rus (h : LDr σ p q w t ru ds) (ht : t < 3) (K : post (.inl (some (mI (ru : Int)))) σ) : Tr Ls N 149 0 [some (mP (some 2)), some (mI (t : Int))] [] σ post := by
  obtain ⟨B, M, an, tx, D3, o3, R3, hd, en, bf, ws, rs, rd, PA, PB, hh, ww, h, ⟨hru, -⟩, -⟩ := h
  refine q_149 h ht ?_
  rw [hru]
  exact K
theorem law_wi (h : LDr σ p q w t ru ds) (K : ∀ σ', LDr σ' p q w t ru [] → post (.inl (some (mI (ds.length : Int)))) σ') : Tr Ls N 131 0 [some (mP (some 2)), none] [] σ post := by
  obtain ⟨B, M, an, tx, D3, o3, R3, hd, en, bf, ws, rs, rd, PA, PB, hh, ww, h, ⟨hru, hrd, hrs, htx, hA, h12, h10⟩, hp, hq, hw⟩ := h
  exact q_131 h (fun σ' h' k' => K σ' ⟨_, _, _, _, _, _, _, _, _, _, _, _, _, _, _, _, _, h', ⟨hru, hrd, hrs, htx, hA.of k', h12, h10⟩, hp, hq, hw⟩)
theorem law_li (h : LDr σ p q w t ru ds) (ht : t < 3) (K : post (.inl (some (mI 1))) σ) : Tr Ls (N + 1) 335 0 [some (mP (some 2)), some (mI (t : Int)), none, none, none, none, none] [] σ post := by
  obtain ⟨B, M, an, tx, D3, o3, R3, hd, en, bf, ws, rs, rd, PA, PB, hh, ww, h, -⟩ := h
  exact s_335 h ht K
set_option maxRecDepth 8000 in
theorem law_759 (h : LDr σ p q w t ru []) (ht : t < 3) (K : jnK Ls N q tn tu Y t e x d post) : Tr Ls (N + 1) 364 759 (lwD p q w tn tu Y t e x d v16 v17 v18 v19 v20) [] σ post := by
  iterate 2 (refine tr_mv rfl (fun _ => rfl) ?_)
  refine tr_stat1 rfl rfl rfl (law_li (N := 0) h ht ?_)
  iterate 5 (refine tr_mv rfl (fun _ => rfl) ?_)
  exact K σ p q w _ _ _ _ _ (Nat.le_refl _) h.li
set_option maxRecDepth 8000 in
theorem law_694 {how : Nat} (h : LDr σ p q w t ru ds) (hl : ds.length ≤ 2) (ht : t < 3) (hh : how ≤ 7) (K : jnK Ls N q tn tu Y t e x d post) : Tr Ls (N + 2) 364 694 (lwD p q w tn tu Y t e x d (some (mI (how : Int))) (some (mI (ru : Int))) v18 v19 v20) [mI (ds.length : Int)] σ post := by
  have hr := h.rul ht
  iterate 6 (refine tr_mv rfl (fun _ => rfl) ?_)
  refine tr_stat1 rfl rfl rfl (law_ru (N := 0) h ht (by omega) (fun σ1 h1 => ?_) (fun σ1 h1 => ?_))
  · iterate 7 (refine tr_mv rfl (fun _ => rfl) ?_)
    refine tr_vc (q := 2) rfl ⟨by decide, by decide +kernel⟩ rfl rfl rfl (law_wi h1 (fun σ2 h2 => ?_))
    iterate 1 (refine tr_mv rfl (fun _ => rfl) ?_)
    refine tr_cmp2 rfl (m32_of (by omega)) (m32_of (by omega)) (fun c3 => absurd rfl c3) (fun c3 => ?_)
    iterate 2 (refine tr_mv rfl (fun _ => rfl) ?_)
    refine tr_vc (q := 2) rfl ⟨by decide, by decide +kernel⟩ rfl rfl rfl (law_rus h2 ht ?_)
    iterate 1 (refine tr_mv rfl (fun _ => rfl) ?_)
    refine tr_cmp2 rfl (m32_of (by omega)) (m32_of (by omega)) (fun c3 => absurd rfl c3) (fun c3 => ?_)
    iterate 1 (refine tr_mv rfl (fun _ => rfl) ?_)
    exact law_759 h2 ht K
  · iterate 5 (refine tr_mv rfl (fun _ => rfl) ?_)
    refine tr_cmp2 rfl (m32_of (by omega)) (m32_of (by omega)) (fun c1 => ?_) (fun c1 => ?_)
    · iterate 4 (refine tr_mv rfl (fun _ => rfl) ?_)
      refine tr_cmp2 rfl (m32_of (by omega)) (m32_of (by omega)) (fun c3 => absurd rfl c3) (fun c3 => ?_)
      iterate 1 (refine tr_mv rfl (fun _ => rfl) ?_)
      refine tr_vc (q := 2) rfl ⟨by decide, by decide +kernel⟩ rfl rfl rfl (law_wi h1 (fun σ2 h2 => ?_))
      rw [show (([] : List Int).length : Int) = 0 from rfl]
      iterate 1 (refine tr_mv rfl (fun _ => rfl) ?_)
      exact law_759 h2 ht K
    · exfalso
      omega
set_option maxRecDepth 8000 in
theorem law_603 {how : Nat} (h : LDr σ p q w t ru ds) (hne : ds ≠ []) (hs : ∀ s ∈ ds, 0 ≤ s ∧ s < 40) (hl : ds.length ≤ 2) (hY : Y < 2 ^ 28) (ht : t < 3) (hh : how ≤ 7) (K : jnK Ls N q tn tu Y t e x d post) : Tr Ls (N + 5) 364 603 (lwD p q w tn tu Y t e x d (some (mI (how : Int))) (some (mI (ru : Int))) v18 v19 v20) [mI (ds.length : Int)] σ post := by
  have d11 : Y / 2 ^ 11 ≤ Y := Nat.div_le_self _ _
  have d14 : Y / 2 ^ 14 ≤ Y := Nat.div_le_self _ _
  have d15 : Y / 2 ^ 15 ≤ Y := Nat.div_le_self _ _
  have d16 : Y / 2 ^ 16 ≤ Y := Nat.div_le_self _ _
  have m11 : Y / 2 ^ 11 % 8 < 8 := Nat.mod_lt _ (by decide)
  have m16 : Y / 2 ^ 16 % 4 < 4 := Nat.mod_lt _ (by decide)
  iterate 6 (refine tr_mv rfl (fun _ => rfl) ?_)
  refine tr_stat1 rfl rfl rfl (law_an (N := 0) h hne hs (fun σ1 h1 => ?_))
  iterate 1 (refine tr_mv rfl (fun _ => rfl) ?_)
  refine tr_cmp2 rfl (m32_of (by omega)) (m32_of (by omega)) (fun c3 => absurd rfl c3) (fun c3 => ?_)
  iterate 7 (refine tr_mv rfl (fun _ => rfl) ?_)
  refine tr_shrn (a := Y) (p := 11) (by omega) (by decide) rfl ?_
  iterate 1 (refine tr_mv rfl (fun _ => rfl) ?_)
  refine tr_remn (a := Y / 2 ^ 11) (b := 8) (by omega) (by omega) rfl ?_
  iterate 2 (refine tr_mv rfl (fun _ => rfl) ?_)
  refine tr_stat1 rfl rfl rfl (law_sg (N := 0) h1 (by show 0 < 10; decide) (by omega) (fun g => absurd (by omega) g) (fun σ2 h2 => ?_))
  iterate 3 (refine tr_mv rfl (fun _ => rfl) ?_)
  refine tr_shrn (a := Y) (p := 14) (by omega) (by decide) rfl ?_
  iterate 1 (refine tr_mv rfl (fun _ => rfl) ?_)
  refine tr_and1 (a := Y / 2 ^ 14) (by omega) rfl ?_
  refine tr_if2 rfl (m32_of (by omega)) (fun c1 => ?_) (fun c1 => ?_)
  · iterate 1 (refine tr_mv rfl (fun _ => rfl) ?_)
    exact tr_mono (law_694 h2 (by show 1 ≤ 2; decide) ht hh K) (by omega)
  have key : ∀ b : Int, 0 ≤ b ∧ b < 40 → ∀ v18, Tr Ls (N + 3) 364 684 (lwD p q w tn tu Y t e x d (some (mI (how : Int))) (some (mI (ru : Int))) v18 v19 v20) [mI b, mI 0, mP (some 2)] σ2 post := by
    intro b hb v18
    iterate 2 (refine tr_mv rfl (fun _ => rfl) ?_)
    refine tr_stat1 rfl rfl rfl (law_sg (N := 0) h2 (by show 1 < 10; decide) (by omega) (fun g => absurd hb g) (fun σ3 h3 => ?_))
    iterate 1 (refine tr_mv rfl (fun _ => rfl) ?_)
    exact law_694 h3 (by show 2 ≤ 2; decide) ht hh K
  iterate 4 (refine tr_mv rfl (fun _ => rfl) ?_)
  refine tr_shrn (a := Y) (p := 15) (by omega) (by decide) rfl ?_
  iterate 1 (refine tr_mv rfl (fun _ => rfl) ?_)
  refine tr_and1 (a := Y / 2 ^ 15) (by omega) rfl ?_
  refine tr_if2 rfl (m32_of (by omega)) (fun c2 => ?_) (fun c2 => ?_)
  · iterate 2 (refine tr_mv rfl (fun _ => rfl) ?_)
    refine tr_shrn (a := Y) (p := 16) (by omega) (by decide) rfl ?_
    iterate 1 (refine tr_mv rfl (fun _ => rfl) ?_)
    refine tr_remn (a := Y / 2 ^ 16) (b := 4) (by omega) (by omega) rfl ?_
    exact key _ (by omega) _
  · iterate 3 (refine tr_mv rfl (fun _ => rfl) ?_)
    refine tr_shrn (a := Y) (p := 16) (by omega) (by decide) rfl ?_
    iterate 1 (refine tr_mv rfl (fun _ => rfl) ?_)
    refine tr_remn (a := Y / 2 ^ 16) (b := 4) (by omega) (by omega) rfl ?_
    iterate 2 (refine tr_mv rfl (fun _ => rfl) ?_)
    exact key _ (by omega) _
set_option maxRecDepth 8000 in
theorem law_543 (h : LI σ p q w) (hY : Y < 2 ^ 28) (ht : t < 3) (K : jnK Ls N q tn tu Y t e x d post) : Tr Ls (N + 7) 364 543 (lwD p q w tn tu Y t e x d v16 v17 v18 v19 v20) [] σ post := by
  have d2 : Y / 2 ^ 2 ≤ Y := Nat.div_le_self _ _
  have d5 : Y / 2 ^ 5 ≤ Y := Nat.div_le_self _ _
  have d8 : Y / 2 ^ 8 ≤ Y := Nat.div_le_self _ _
  have m2 : Y / 2 ^ 2 % 8 < 8 := Nat.mod_lt _ (by decide)
  have m5 : Y / 2 ^ 5 % 8 < 8 := Nat.mod_lt _ (by decide)
  have m8 : Y / 2 ^ 8 % 6 < 6 := Nat.mod_lt _ (by decide)
  obtain ⟨ru, h⟩ := h.dr t
  have hr := h.rul ht
  iterate 2 (refine tr_mv rfl (fun _ => rfl) ?_)
  refine tr_shrn (a := Y) (p := 2) (by omega) (by decide) rfl ?_
  iterate 1 (refine tr_mv rfl (fun _ => rfl) ?_)
  refine tr_remn (a := Y / 2 ^ 2) (b := 8) (by omega) (by omega) rfl ?_
  iterate 3 (refine tr_mv rfl (fun _ => rfl) ?_)
  refine tr_vc (q := 2) rfl ⟨by decide, by decide +kernel⟩ rfl rfl rfl (law_rus h ht ?_)
  iterate 5 (refine tr_mv rfl (fun _ => rfl) ?_)
  refine tr_shrn (a := Y) (p := 5) (by omega) (by decide) rfl ?_
  iterate 1 (refine tr_mv rfl (fun _ => rfl) ?_)
  refine tr_remn (a := Y / 2 ^ 5) (b := 8) (by omega) (by omega) rfl ?_
  iterate 2 (refine tr_mv rfl (fun _ => rfl) ?_)
  refine tr_stat1 rfl rfl rfl (law_sg (N := 0) h (by show 0 < 10; decide) (by omega) (fun g => absurd (by omega) g) (fun σ2 h2 => ?_))
  iterate 3 (refine tr_mv rfl (fun _ => rfl) ?_)
  refine tr_cmp2 rfl (m32_of (by omega)) (m32_of (by omega)) (fun c1 => ?_) (fun c1 => ?_)
  · iterate 1 (refine tr_mv rfl (fun _ => rfl) ?_)
    exact tr_mono (law_603 h2 (List.cons_ne_nil _ _) (fun s hs => by rw [List.mem_singleton.mp hs]; omega) (by show 1 ≤ 2; decide) hY ht (by omega) K) (by omega)
  · iterate 4 (refine tr_mv rfl (fun _ => rfl) ?_)
    refine tr_shrn (a := Y) (p := 8) (by omega) (by decide) rfl ?_
    iterate 1 (refine tr_mv rfl (fun _ => rfl) ?_)
    refine tr_remn (a := Y / 2 ^ 8) (b := 6) (by omega) (by omega) rfl ?_
    iterate 2 (refine tr_mv rfl (fun _ => rfl) ?_)
    refine tr_stat1 rfl rfl rfl (law_sg (N := 0) h2 (by show 1 < 10; decide) (by omega) (fun g => absurd (by omega) g) (fun σ3 h3 => ?_))
    iterate 1 (refine tr_mv rfl (fun _ => rfl) ?_)
    exact law_603 h3 (List.cons_ne_nil _ _) (fun s hs => by
      rcases List.mem_cons.mp hs with g | hs
      · rw [g]; omega
      · rw [List.mem_singleton.mp hs]; omega) (by show 2 ≤ 2; decide) hY ht (by omega) K
end DEED3
