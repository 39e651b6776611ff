/-! The law's loop: one call of the class, the model's, and on. -/
def bv (x : Int) : Int := if x = 0 then 0 else 1
theorem bv_in (x : Int) : bv x = 0 ∨ bv x = 1 := by
  unfold bv
  split
  · exact Or.inl rfl
  · exact Or.inr rfl
section LAW
variable {Ls N k pc n a b c i j : Nat} {L : mLs} {st r : List mV} {σ σ' : Sg} {post : tP} {z : Int} {S : Nat → Int} {v5 v6 : Option mV}
theorem tr_rd (hs : ∀ j, σ.2 0 j = S j) (hz : z = (j : Int)) (hj : i + j < Ls) (hL : Ls ≤ 3072) (he : mPg.1 k pc = some (.iaload, n, a, b, c)) (K : Tr Ls N k (pc + n) L (mI (S (i + j)) :: r) σ post) : Tr Ls N k pc L (mI ((i : Int) + z) :: mP (some 0) :: r) σ post := by
  subst hz
  have e : m32 ((i : Int) + (j : Int)) = ((i + j : Nat) : Int) := by
    rw [m32_of (by omega)]
    omega
  have e2 : (((i + j : Nat) : Int)).toNat = i + j := by omega
  refine tr_sc (by rw [e]; omega) he ?_
  rw [e, e2, hs]
  exact K
theorem lc0 (z : Int) : (if m64 z < m64 z then (-1 : Int) else if m64 z = m64 z then 0 else 1) = 0 := by rw [if_neg (Int.lt_irrefl _), if_pos rfl]
/-- goes on behind a call -/
abbrev lwK (Ls N i : Nat) (S : Nat → Int) (post : tP) : Prop := ∀ (σ' : Sg) (v5 v6 : Option mV), StR σ' → (∀ j, σ'.2 0 j = S j) → Tr Ls N 364 2685 [some (mP (some 0)), some (mP (some 2)), some (mP (some 480)), some (mP (some 533)), some (mI (i : Int)), v5, v6] [] σ' post
set_option maxRecDepth 8000 in
theorem lw_0 (hR : StR σ) (hs : ∀ j, σ.2 0 j = S j) (h32 : ∀ j, in32 (S j)) (hi : i + 5 < Ls) (hL : Ls ≤ 3072) (K : lwK Ls N i S post) : Tr Ls (N + 1) 364 204 [some (mP (some 0)), some (mP (some 2)), some (mP (some 480)), some (mP (some 533)), some (mI (i : Int)), v5, v6] [] σ post := by
  refine tr_mv rfl (fun _ => rfl) ?_
  iterate 4 (refine tr_mv rfl (fun _ => rfl) ?_)
  refine tr_rd (j := 1) hs rfl (by omega) hL rfl ?_
  refine tr_mv rfl (fun _ => rfl) ?_
  refine tr_stat1 rfl rfl rfl (tr_post (tr_keep (op_0 hR (h32 _))) (fun o1 σ1 hj => ?_))
  obtain ⟨⟨k, rfl, hM⟩, hk1⟩ := hj
  have hs1 : ∀ j, σ1.2 0 j = S j := fun j => (hk1 j).trans (hs j)
  iterate 2 (refine tr_mv rfl (fun _ => rfl) ?_)
  iterate 4 (refine tr_mv rfl (fun _ => rfl) ?_)
  refine tr_rd (j := 1) hs1 rfl (by omega) hL rfl ?_
  refine tr_vc (q := 480) rfl isO_480 rfl rfl rfl (tr_post (tr_keep hM) (fun o2 σ2 hj2 => ?_))
  obtain ⟨⟨b9, rfl, hz, hv, hR2⟩, hk2⟩ := hj2
  have hs2 : ∀ j, σ2.2 0 j = S j := fun j => (hk2 j).trans (hs1 j)
  iterate 2 (refine tr_mv rfl (fun _ => rfl) ?_)
  refine tr_vc (q := 480) rfl isO_480 rfl rfl rfl (s_209 ?_)
  refine tr_mv rfl (fun _ => rfl) ?_
  rw [hz]
  refine tr_cmp2 rfl rfl rfl (fun _ => ?_) (fun e => absurd rfl e)
  refine tr_mv rfl (fun _ => rfl) ?_
  refine tr_if2 rfl rfl (fun _ => ?_) (fun e => ?_)
  · refine tr_mv rfl (fun _ => rfl) ?_
    exact K σ2 _ _ hR2 hs2
  · have hk0 : m32 k = 0 := Decidable.of_not_not e
    iterate 2 (refine tr_mv rfl (fun _ => rfl) ?_)
    refine tr_ll rfl ?_
    rw [hv hk0]
    iterate 3 (refine tr_mv rfl (fun _ => rfl) ?_)
    rw [lc0]
    refine tr_if2 rfl (m32_of (x := 0) ⟨by decide, by decide⟩) (fun _ => ?_) (fun e => absurd rfl e)
    refine tr_mv rfl (fun _ => rfl) ?_
    exact K σ2 _ _ hR2 hs2
set_option maxRecDepth 8000 in
theorem lw_1 (hR : StR σ) (hs : ∀ j, σ.2 0 j = S j) (h32 : ∀ j, in32 (S j)) (hi : i + 5 < Ls) (hL : Ls ≤ 3072) (K : lwK Ls N i S post) : Tr Ls (N + 1) 364 260 [some (mP (some 0)), some (mP (some 2)), some (mP (some 480)), some (mP (some 533)), some (mI (i : Int)), v5, v6] [] σ post := by
  refine tr_mv rfl (fun _ => rfl) ?_
  iterate 4 (refine tr_mv rfl (fun _ => rfl) ?_)
  refine tr_rd (j := 1) hs rfl (by omega) hL rfl ?_
  iterate 4 (refine tr_mv rfl (fun _ => rfl) ?_)
  refine tr_rd (j := 2) hs rfl (by omega) hL rfl ?_
  iterate 4 (refine tr_mv rfl (fun _ => rfl) ?_)
  refine tr_rd (j := 3) hs rfl (by omega) hL rfl ?_
  refine tr_mv rfl (fun _ => rfl) ?_
  refine tr_stat1 rfl rfl rfl (tr_post (tr_keep (op_1 hR (h32 _) (h32 _) (h32 _))) (fun o1 σ1 hj => ?_))
  obtain ⟨⟨k, rfl, hM⟩, hk1⟩ := hj
  have hs1 : ∀ j, σ1.2 0 j = S j := fun j => (hk1 j).trans (hs j)
  iterate 2 (refine tr_mv rfl (fun _ => rfl) ?_)
  iterate 4 (refine tr_mv rfl (fun _ => rfl) ?_)
  refine tr_rd (j := 1) hs1 rfl (by omega) hL rfl ?_
  iterate 4 (refine tr_mv rfl (fun _ => rfl) ?_)
  refine tr_rd (j := 2) hs1 rfl (by omega) hL rfl ?_
  iterate 4 (refine tr_mv rfl (fun _ => rfl) ?_)
  refine tr_rd (j := 3) hs1 rfl (by omega) hL rfl ?_
  refine tr_vc (q := 480) rfl isO_480 rfl rfl rfl (tr_post (tr_keep hM) (fun o2 σ2 hj2 => ?_))
  obtain ⟨⟨b9, rfl, hz, hv, hR2⟩, hk2⟩ := hj2
  have hs2 : ∀ j, σ2.2 0 j = S j := fun j => (hk2 j).trans (hs1 j)
  iterate 2 (refine tr_mv rfl (fun _ => rfl) ?_)
  refine tr_vc (q := 480) rfl isO_480 rfl rfl rfl (s_209 ?_)
  refine tr_mv rfl (fun _ => rfl) ?_
  rw [hz]
  refine tr_cmp2 rfl rfl rfl (fun _ => ?_) (fun e => absurd rfl e)
  refine tr_mv rfl (fun _ => rfl) ?_
  refine tr_if2 rfl rfl (fun _ => ?_) (fun e => ?_)
  · refine tr_mv rfl (fun _ => rfl) ?_
    exact K σ2 _ _ hR2 hs2
  · have hk0 : m32 k = 0 := Decidable.of_not_not e
    iterate 2 (refine tr_mv rfl (fun _ => rfl) ?_)
    refine tr_ll rfl ?_
    rw [hv hk0]
    iterate 3 (refine tr_mv rfl (fun _ => rfl) ?_)
    rw [lc0]
    refine tr_if2 rfl (m32_of (x := 0) ⟨by decide, by decide⟩) (fun _ => ?_) (fun e => absurd rfl e)
    refine tr_mv rfl (fun _ => rfl) ?_
    exact K σ2 _ _ hR2 hs2
set_option maxRecDepth 8000 in
theorem lw_2 (hR : StR σ) (hs : ∀ j, σ.2 0 j = S j) (h32 : ∀ j, in32 (S j)) (hi : i + 5 < Ls) (hL : Ls ≤ 3072) (K : lwK Ls N i S post) : Tr Ls (N + 1) 364 340 [some (mP (some 0)), some (mP (some 2)), some (mP (some 480)), some (mP (some 533)), some (mI (i : Int)), v5, v6] [] σ post := by
  refine tr_mv rfl (fun _ => rfl) ?_
  refine tr_mv rfl (fun _ => rfl) ?_
  refine tr_stat1 rfl rfl rfl (tr_post (tr_keep (op_2 hR )) (fun o1 σ1 hj => ?_))
  obtain ⟨⟨k, rfl, hM⟩, hk1⟩ := hj
  have hs1 : ∀ j, σ1.2 0 j = S j := fun j => (hk1 j).trans (hs j)
  iterate 2 (refine tr_mv rfl (fun _ => rfl) ?_)
  refine tr_vc (q := 480) rfl isO_480 rfl rfl rfl (tr_post (tr_keep hM) (fun o2 σ2 hj2 => ?_))
  obtain ⟨⟨b9, rfl, hz, hv, hR2⟩, hk2⟩ := hj2
  have hs2 : ∀ j, σ2.2 0 j = S j := fun j => (hk2 j).trans (hs1 j)
  iterate 2 (refine tr_mv rfl (fun _ => rfl) ?_)
  refine tr_vc (q := 480) rfl isO_480 rfl rfl rfl (s_209 ?_)
  refine tr_mv rfl (fun _ => rfl) ?_
  rw [hz]
  refine tr_cmp2 rfl rfl rfl (fun _ => ?_) (fun e => absurd rfl e)
  refine tr_mv rfl (fun _ => rfl) ?_
  refine tr_if2 rfl rfl (fun _ => ?_) (fun e => ?_)
  · refine tr_mv rfl (fun _ => rfl) ?_
    exact K σ2 _ _ hR2 hs2
  · have hk0 : m32 k = 0 := Decidable.of_not_not e
    iterate 2 (refine tr_mv rfl (fun _ => rfl) ?_)
    refine tr_ll rfl ?_
    rw [hv hk0]
    iterate 3 (refine tr_mv rfl (fun _ => rfl) ?_)
    rw [lc0]
    refine tr_if2 rfl (m32_of (x := 0) ⟨by decide, by decide⟩) (fun _ => ?_) (fun e => absurd rfl e)
    refine tr_mv rfl (fun _ => rfl) ?_
    exact K σ2 _ _ hR2 hs2
set_option maxRecDepth 8000 in
theorem lw_3 (hR : StR σ) (hs : ∀ j, σ.2 0 j = S j) (h32 : ∀ j, in32 (S j)) (hi : i + 5 < Ls) (hL : Ls ≤ 3072) (K : lwK Ls N i S post) : Tr Ls (N + 1) 364 384 [some (mP (some 0)), some (mP (some 2)), some (mP (some 480)), some (mP (some 533)), some (mI (i : Int)), v5, v6] [] σ post := by
  refine tr_mv rfl (fun _ => rfl) ?_
  refine tr_vc1 (q := 2) rfl ⟨by decide, by decide +kernel⟩ rfl rfl rfl (tr_post (tr_keep (op_3 hR)) (fun o1 σ1 hj => ?_))
  obtain ⟨⟨v, rfl, hM⟩, hk1⟩ := hj
  refine tr_mv rfl (fun _ => rfl) ?_
  refine tr_vc (q := 480) rfl isO_480 rfl rfl rfl (tr_post (tr_keep hM) (fun o2 σ2 hj2 => ?_))
  obtain ⟨⟨rfl, hR2⟩, hk2⟩ := hj2
  refine tr_cmp2 rfl rfl rfl (fun _ => ?_) (fun e => absurd rfl e)
  exact K σ2 _ _ hR2 (fun j => (hk2 j).trans ((hk1 j).trans (hs j)))
set_option maxRecDepth 8000 in
theorem lw_4 (hR : StR σ) (hs : ∀ j, σ.2 0 j = S j) (h32 : ∀ j, in32 (S j)) (hi : i + 5 < Ls) (hL : Ls ≤ 3072) (K : lwK Ls N i S post) : Tr Ls (N + 1) 364 397 [some (mP (some 0)), some (mP (some 2)), some (mP (some 480)), some (mP (some 533)), some (mI (i : Int)), v5, v6] [] σ post := by
  refine tr_mv rfl (fun _ => rfl) ?_
  refine tr_mv rfl (fun _ => rfl) ?_
  refine tr_stat1 rfl rfl rfl (tr_post (tr_keep (op_4 hR )) (fun o1 σ1 hj => ?_))
  obtain ⟨⟨k, rfl, hM⟩, hk1⟩ := hj
  have hs1 : ∀ j, σ1.2 0 j = S j := fun j => (hk1 j).trans (hs j)
  iterate 2 (refine tr_mv rfl (fun _ => rfl) ?_)
  refine tr_vc (q := 480) rfl isO_480 rfl rfl rfl (tr_post (tr_keep hM) (fun o2 σ2 hj2 => ?_))
  obtain ⟨⟨b9, rfl, hz, hv, hR2⟩, hk2⟩ := hj2
  have hs2 : ∀ j, σ2.2 0 j = S j := fun j => (hk2 j).trans (hs1 j)
  iterate 2 (refine tr_mv rfl (fun _ => rfl) ?_)
  refine tr_vc (q := 480) rfl isO_480 rfl rfl rfl (s_209 ?_)
  refine tr_mv rfl (fun _ => rfl) ?_
  rw [hz]
  refine tr_cmp2 rfl rfl rfl (fun _ => ?_) (fun e => absurd rfl e)
  refine tr_mv rfl (fun _ => rfl) ?_
  refine tr_if2 rfl rfl (fun _ => ?_) (fun e => ?_)
  · refine tr_mv rfl (fun _ => rfl) ?_
    exact K σ2 _ _ hR2 hs2
  · have hk0 : m32 k = 0 := Decidable.of_not_not e
    iterate 2 (refine tr_mv rfl (fun _ => rfl) ?_)
    refine tr_ll rfl ?_
    rw [hv hk0]
    iterate 3 (refine tr_mv rfl (fun _ => rfl) ?_)
    rw [lc0]
    refine tr_if2 rfl (m32_of (x := 0) ⟨by decide, by decide⟩) (fun _ => ?_) (fun e => absurd rfl e)
    refine tr_mv rfl (fun _ => rfl) ?_
    exact K σ2 _ _ hR2 hs2
set_option maxRecDepth 8000 in
theorem lw_5 (hR : StR σ) (hs : ∀ j, σ.2 0 j = S j) (h32 : ∀ j, in32 (S j)) (hi : i + 5 < Ls) (hL : Ls ≤ 3072) (K : lwK Ls N i S post) : Tr Ls (N + 1) 364 441 [some (mP (some 0)), some (mP (some 2)), some (mP (some 480)), some (mP (some 533)), some (mI (i : Int)), v5, v6] [] σ post := by
  refine tr_mv rfl (fun _ => rfl) ?_
  iterate 4 (refine tr_mv rfl (fun _ => rfl) ?_)
  refine tr_rd (j := 1) hs rfl (by omega) hL rfl ?_
  iterate 4 (refine tr_mv rfl (fun _ => rfl) ?_)
  refine tr_rd (j := 2) hs rfl (by omega) hL rfl ?_
  refine tr_mv rfl (fun _ => rfl) ?_
  refine tr_stat1 rfl rfl rfl (tr_post (tr_keep (op_5 hR (h32 _) (h32 _))) (fun o1 σ1 hj => ?_))
  obtain ⟨⟨k, rfl, hM⟩, hk1⟩ := hj
  have hs1 : ∀ j, σ1.2 0 j = S j := fun j => (hk1 j).trans (hs j)
  iterate 2 (refine tr_mv rfl (fun _ => rfl) ?_)
  iterate 4 (refine tr_mv rfl (fun _ => rfl) ?_)
  refine tr_rd (j := 1) hs1 rfl (by omega) hL rfl ?_
  iterate 4 (refine tr_mv rfl (fun _ => rfl) ?_)
  refine tr_rd (j := 2) hs1 rfl (by omega) hL rfl ?_
  refine tr_vc (q := 480) rfl isO_480 rfl rfl rfl (tr_post (tr_keep hM) (fun o2 σ2 hj2 => ?_))
  obtain ⟨⟨b9, rfl, hz, hv, hR2⟩, hk2⟩ := hj2
  have hs2 : ∀ j, σ2.2 0 j = S j := fun j => (hk2 j).trans (hs1 j)
  iterate 2 (refine tr_mv rfl (fun _ => rfl) ?_)
  refine tr_vc (q := 480) rfl isO_480 rfl rfl rfl (s_209 ?_)
  refine tr_mv rfl (fun _ => rfl) ?_
  rw [hz]
  refine tr_cmp2 rfl rfl rfl (fun _ => ?_) (fun e => absurd rfl e)
  refine tr_mv rfl (fun _ => rfl) ?_
  refine tr_if2 rfl rfl (fun _ => ?_) (fun e => ?_)
  · refine tr_mv rfl (fun _ => rfl) ?_
    exact K σ2 _ _ hR2 hs2
  · have hk0 : m32 k = 0 := Decidable.of_not_not e
    iterate 2 (refine tr_mv rfl (fun _ => rfl) ?_)
    refine tr_ll rfl ?_
    rw [hv hk0]
    iterate 3 (refine tr_mv rfl (fun _ => rfl) ?_)
    rw [lc0]
    refine tr_if2 rfl (m32_of (x := 0) ⟨by decide, by decide⟩) (fun _ => ?_) (fun e => absurd rfl e)
    refine tr_mv rfl (fun _ => rfl) ?_
    exact K σ2 _ _ hR2 hs2
set_option maxRecDepth 8000 in
theorem lw_6 (hR : StR σ) (hs : ∀ j, σ.2 0 j = S j) (h32 : ∀ j, in32 (S j)) (hi : i + 5 < Ls) (hL : Ls ≤ 3072) (K : lwK Ls N i S post) : Tr Ls (N + 1) 364 509 [some (mP (some 0)), some (mP (some 2)), some (mP (some 480)), some (mP (some 533)), some (mI (i : Int)), v5, v6] [] σ post := by
  refine tr_mv rfl (fun _ => rfl) ?_
  iterate 4 (refine tr_mv rfl (fun _ => rfl) ?_)
  refine tr_rd (j := 1) hs rfl (by omega) hL rfl ?_
  iterate 4 (refine tr_mv rfl (fun _ => rfl) ?_)
  refine tr_rd (j := 2) hs rfl (by omega) hL rfl ?_
  refine tr_mv rfl (fun _ => rfl) ?_
  refine tr_stat1 rfl rfl rfl (tr_post (tr_keep (op_6 hR (h32 _) (h32 _))) (fun o1 σ1 hj => ?_))
  obtain ⟨⟨k, rfl, hM⟩, hk1⟩ := hj
  have hs1 : ∀ j, σ1.2 0 j = S j := fun j => (hk1 j).trans (hs j)
  iterate 2 (refine tr_mv rfl (fun _ => rfl) ?_)
  iterate 4 (refine tr_mv rfl (fun _ => rfl) ?_)
  refine tr_rd (j := 1) hs1 rfl (by omega) hL rfl ?_
  iterate 4 (refine tr_mv rfl (fun _ => rfl) ?_)
  refine tr_rd (j := 2) hs1 rfl (by omega) hL rfl ?_
  refine tr_vc (q := 480) rfl isO_480 rfl rfl rfl (tr_post (tr_keep hM) (fun o2 σ2 hj2 => ?_))
  obtain ⟨⟨b9, rfl, hz, hv, hR2⟩, hk2⟩ := hj2
  have hs2 : ∀ j, σ2.2 0 j = S j := fun j => (hk2 j).trans (hs1 j)
  iterate 2 (refine tr_mv rfl (fun _ => rfl) ?_)
  refine tr_vc (q := 480) rfl isO_480 rfl rfl rfl (s_209 ?_)
  refine tr_mv rfl (fun _ => rfl) ?_
  rw [hz]
  refine tr_cmp2 rfl rfl rfl (fun _ => ?_) (fun e => absurd rfl e)
  refine tr_mv rfl (fun _ => rfl) ?_
  refine tr_if2 rfl rfl (fun _ => ?_) (fun e => ?_)
  · refine tr_mv rfl (fun _ => rfl) ?_
    exact K σ2 _ _ hR2 hs2
  · have hk0 : m32 k = 0 := Decidable.of_not_not e
    iterate 2 (refine tr_mv rfl (fun _ => rfl) ?_)
    refine tr_ll rfl ?_
    rw [hv hk0]
    iterate 3 (refine tr_mv rfl (fun _ => rfl) ?_)
    rw [lc0]
    refine tr_if2 rfl (m32_of (x := 0) ⟨by decide, by decide⟩) (fun _ => ?_) (fun e => absurd rfl e)
    refine tr_mv rfl (fun _ => rfl) ?_
    exact K σ2 _ _ hR2 hs2
set_option maxRecDepth 8000 in
theorem lw_7 (hR : StR σ) (hs : ∀ j, σ.2 0 j = S j) (h32 : ∀ j, in32 (S j)) (hi : i + 5 < Ls) (hL : Ls ≤ 3072) (K : lwK Ls N i S post) : Tr Ls (N + 1) 364 577 [some (mP (some 0)), some (mP (some 2)), some (mP (some 480)), some (mP (some 533)), some (mI (i : Int)), v5, v6] [] σ post := by
  refine tr_mv rfl (fun _ => rfl) ?_
  iterate 4 (refine tr_mv rfl (fun _ => rfl) ?_)
  refine tr_rd (j := 1) hs rfl (by omega) hL rfl ?_
  iterate 4 (refine tr_mv rfl (fun _ => rfl) ?_)
  refine tr_rd (j := 2) hs rfl (by omega) hL rfl ?_
  iterate 4 (refine tr_mv rfl (fun _ => rfl) ?_)
  refine tr_rd (j := 3) hs rfl (by omega) hL rfl ?_
  suffices key : Tr Ls (N + 1) 364 604 [some (mP (some 0)), some (mP (some 2)), some (mP (some 480)), some (mP (some 533)), some (mI (i : Int)), v5, v6] [mI (bv (S (i + 3))), mI (S (i + 2)), mI (S (i + 1)), mP (some 2)] σ post by
    refine tr_if2 rfl (m32_of (h32 _)) (fun e => ?_) (fun e => ?_)
    · refine tr_mv rfl (fun _ => rfl) ?_
      rw [show bv (S (i + 3)) = 0 from if_pos e] at key
      exact key
    · iterate 2 (refine tr_mv rfl (fun _ => rfl) ?_)
      rw [show bv (S (i + 3)) = 1 from if_neg e] at key
      exact key
  refine tr_mv rfl (fun _ => rfl) ?_
  refine tr_stat1 rfl rfl rfl (tr_post (tr_keep (op_7 hR (h32 _) (h32 _) (bv_in _))) (fun o1 σ1 hj => ?_))
  obtain ⟨⟨k, rfl, hM⟩, hk1⟩ := hj
  have hs1 : ∀ j, σ1.2 0 j = S j := fun j => (hk1 j).trans (hs j)
  iterate 2 (refine tr_mv rfl (fun _ => rfl) ?_)
  iterate 4 (refine tr_mv rfl (fun _ => rfl) ?_)
  refine tr_rd (j := 1) hs1 rfl (by omega) hL rfl ?_
  iterate 4 (refine tr_mv rfl (fun _ => rfl) ?_)
  refine tr_rd (j := 2) hs1 rfl (by omega) hL rfl ?_
  iterate 4 (refine tr_mv rfl (fun _ => rfl) ?_)
  refine tr_rd (j := 3) hs1 rfl (by omega) hL rfl ?_
  suffices key : Tr Ls N 364 637 [some (mP (some 0)), some (mP (some 2)), some (mP (some 480)), some (mP (some 533)), some (mI (i : Int)), some (mI k), v6] [mI (bv (S (i + 3))), mI (S (i + 2)), mI (S (i + 1)), mP (some 480)] σ1 post by
    refine tr_if2 rfl (m32_of (h32 _)) (fun e => ?_) (fun e => ?_)
    · refine tr_mv rfl (fun _ => rfl) ?_
      rw [show bv (S (i + 3)) = 0 from if_pos e] at key
      exact key
    · iterate 2 (refine tr_mv rfl (fun _ => rfl) ?_)
      rw [show bv (S (i + 3)) = 1 from if_neg e] at key
      exact key
  refine tr_vc (q := 480) rfl isO_480 rfl rfl rfl (tr_post (tr_keep hM) (fun o2 σ2 hj2 => ?_))
  obtain ⟨⟨b9, rfl, hb9, hz, hv, hR2⟩, hk2⟩ := hj2
  have hs2 : ∀ j, σ2.2 0 j = S j := fun j => (hk2 j).trans (hs1 j)
  iterate 2 (refine tr_mv rfl (fun _ => rfl) ?_)
  refine tr_vc (q := 480) rfl isO_480 rfl rfl rfl (s_209 ?_)
  refine tr_mv rfl (fun _ => rfl) ?_
  rw [hz]
  refine tr_cmp2 rfl rfl rfl (fun _ => ?_) (fun e => absurd rfl e)
  refine tr_mv rfl (fun _ => rfl) ?_
  refine tr_if2 rfl rfl (fun _ => ?_) (fun e => ?_)
  · refine tr_mv rfl (fun _ => rfl) ?_
    exact K σ2 _ _ hR2 hs2
  · have hk0 : m32 k = 0 := Decidable.of_not_not e
    iterate 2 (refine tr_mv rfl (fun _ => rfl) ?_)
    refine tr_ll rfl ?_
    rw [hv hk0]
    refine tr_mv rfl (fun _ => rfl) ?_
    rcases hb9 with rfl | rfl
    · refine tr_if2 rfl (m32_of (x := 0) ⟨by decide, by decide⟩) (fun _ => ?_) (fun e => absurd rfl e)
      iterate 2 (refine tr_mv rfl (fun _ => rfl) ?_)
      change Tr _ _ _ _ _ (mI (if m64 0 < m64 0 then (-1 : Int) else if m64 0 = m64 0 then 0 else 1) :: _) _ _
      rw [lc0]
      refine tr_if2 rfl (m32_of (x := 0) ⟨by decide, by decide⟩) (fun _ => ?_) (fun e => absurd rfl e)
      refine tr_mv rfl (fun _ => rfl) ?_
      exact K σ2 _ _ hR2 hs2
    · refine tr_if2 rfl (m32_of (x := 1) ⟨by decide, by decide⟩) (fun e => absurd e (by decide)) (fun _ => ?_)
      iterate 3 (refine tr_mv rfl (fun _ => rfl) ?_)
      change Tr _ _ _ _ _ (mI (if m64 1 < m64 1 then (-1 : Int) else if m64 1 = m64 1 then 0 else 1) :: _) _ _
      rw [lc0]
      refine tr_if2 rfl (m32_of (x := 0) ⟨by decide, by decide⟩) (fun _ => ?_) (fun e => absurd rfl e)
      refine tr_mv rfl (fun _ => rfl) ?_
      exact K σ2 _ _ hR2 hs2
set_option maxRecDepth 8000 in
theorem lw_8 (hR : StR σ) (hs : ∀ j, σ.2 0 j = S j) (h32 : ∀ j, in32 (S j)) (hi : i + 5 < Ls) (hL : Ls ≤ 3072) (K : lwK Ls N i S post) : Tr Ls (N + 1) 364 680 [some (mP (some 0)), some (mP (some 2)), some (mP (some 480)), some (mP (some 533)), some (mI (i : Int)), v5, v6] [] σ post := by
  refine tr_mv rfl (fun _ => rfl) ?_
  iterate 4 (refine tr_mv rfl (fun _ => rfl) ?_)
  refine tr_rd (j := 1) hs rfl (by omega) hL rfl ?_
  iterate 4 (refine tr_mv rfl (fun _ => rfl) ?_)
  refine tr_rd (j := 2) hs rfl (by omega) hL rfl ?_
  suffices key : Tr Ls (N + 1) 364 701 [some (mP (some 0)), some (mP (some 2)), some (mP (some 480)), some (mP (some 533)), some (mI (i : Int)), v5, v6] [mI (bv (S (i + 2))), mI (S (i + 1)), mP (some 2)] σ post by
    refine tr_if2 rfl (m32_of (h32 _)) (fun e => ?_) (fun e => ?_)
    · refine tr_mv rfl (fun _ => rfl) ?_
      rw [show bv (S (i + 2)) = 0 from if_pos e] at key
      exact key
    · iterate 2 (refine tr_mv rfl (fun _ => rfl) ?_)
      rw [show bv (S (i + 2)) = 1 from if_neg e] at key
      exact key
  refine tr_mv rfl (fun _ => rfl) ?_
  refine tr_stat1 rfl rfl rfl (tr_post (tr_keep (op_8 hR (h32 _) (bv_in _))) (fun o1 σ1 hj => ?_))
  obtain ⟨⟨k, rfl, hM⟩, hk1⟩ := hj
  have hs1 : ∀ j, σ1.2 0 j = S j := fun j => (hk1 j).trans (hs j)
  iterate 2 (refine tr_mv rfl (fun _ => rfl) ?_)
  iterate 4 (refine tr_mv rfl (fun _ => rfl) ?_)
  refine tr_rd (j := 1) hs1 rfl (by omega) hL rfl ?_
  iterate 4 (refine tr_mv rfl (fun _ => rfl) ?_)
  refine tr_rd (j := 2) hs1 rfl (by omega) hL rfl ?_
  suffices key : Tr Ls N 364 728 [some (mP (some 0)), some (mP (some 2)), some (mP (some 480)), some (mP (some 533)), some (mI (i : Int)), some (mI k), v6] [mI (bv (S (i + 2))), mI (S (i + 1)), mP (some 480)] σ1 post by
    refine tr_if2 rfl (m32_of (h32 _)) (fun e => ?_) (fun e => ?_)
    · refine tr_mv rfl (fun _ => rfl) ?_
      rw [show bv (S (i + 2)) = 0 from if_pos e] at key
      exact key
    · iterate 2 (refine tr_mv rfl (fun _ => rfl) ?_)
      rw [show bv (S (i + 2)) = 1 from if_neg e] at key
      exact key
  refine tr_vc (q := 480) rfl isO_480 rfl rfl rfl (tr_post (tr_keep hM) (fun o2 σ2 hj2 => ?_))
  obtain ⟨⟨b9, rfl, hz, hv, hR2⟩, hk2⟩ := hj2
  have hs2 : ∀ j, σ2.2 0 j = S j := fun j => (hk2 j).trans (hs1 j)
  iterate 2 (refine tr_mv rfl (fun _ => rfl) ?_)
  refine tr_vc (q := 480) rfl isO_480 rfl rfl rfl (s_209 ?_)
  refine tr_mv rfl (fun _ => rfl) ?_
  rw [hz]
  refine tr_cmp2 rfl rfl rfl (fun _ => ?_) (fun e => absurd rfl e)
  refine tr_mv rfl (fun _ => rfl) ?_
  refine tr_if2 rfl rfl (fun _ => ?_) (fun e => ?_)
  · refine tr_mv rfl (fun _ => rfl) ?_
    exact K σ2 _ _ hR2 hs2
  · have hk0 : m32 k = 0 := Decidable.of_not_not e
    iterate 2 (refine tr_mv rfl (fun _ => rfl) ?_)
    refine tr_ll rfl ?_
    rw [hv hk0]
    iterate 3 (refine tr_mv rfl (fun _ => rfl) ?_)
    rw [lc0]
    refine tr_if2 rfl (m32_of (x := 0) ⟨by decide, by decide⟩) (fun _ => ?_) (fun e => absurd rfl e)
    refine tr_mv rfl (fun _ => rfl) ?_
    exact K σ2 _ _ hR2 hs2
set_option maxRecDepth 8000 in
theorem lw_9 (hR : StR σ) (hs : ∀ j, σ.2 0 j = S j) (h32 : ∀ j, in32 (S j)) (hi : i + 5 < Ls) (hL : Ls ≤ 3072) (K : lwK Ls N i S post) : Tr Ls (N + 1) 364 764 [some (mP (some 0)), some (mP (some 2)), some (mP (some 480)), some (mP (some 533)), some (mI (i : Int)), v5, v6] [] σ post := by
  refine tr_mv rfl (fun _ => rfl) ?_
  iterate 4 (refine tr_mv rfl (fun _ => rfl) ?_)
  refine tr_rd (j := 1) hs rfl (by omega) hL rfl ?_
  iterate 4 (refine tr_mv rfl (fun _ => rfl) ?_)
  refine tr_rd (j := 2) hs rfl (by omega) hL rfl ?_
  iterate 4 (refine tr_mv rfl (fun _ => rfl) ?_)
  refine tr_rd (j := 3) hs rfl (by omega) hL rfl ?_
  refine tr_mv rfl (fun _ => rfl) ?_
  refine tr_stat1 rfl rfl rfl (tr_post (tr_keep (op_9 hR (h32 _) (h32 _) (h32 _))) (fun o1 σ1 hj => ?_))
  obtain ⟨⟨k, rfl, hM⟩, hk1⟩ := hj
  have hs1 : ∀ j, σ1.2 0 j = S j := fun j => (hk1 j).trans (hs j)
  iterate 2 (refine tr_mv rfl (fun _ => rfl) ?_)
  iterate 4 (refine tr_mv rfl (fun _ => rfl) ?_)
  refine tr_rd (j := 1) hs1 rfl (by omega) hL rfl ?_
  iterate 4 (refine tr_mv rfl (fun _ => rfl) ?_)
  refine tr_rd (j := 2) hs1 rfl (by omega) hL rfl ?_
  iterate 4 (refine tr_mv rfl (fun _ => rfl) ?_)
  refine tr_rd (j := 3) hs1 rfl (by omega) hL rfl ?_
  refine tr_vc (q := 480) rfl isO_480 rfl rfl rfl (tr_post (tr_keep hM) (fun o2 σ2 hj2 => ?_))
  obtain ⟨⟨b9, rfl, hz, hv, hR2⟩, hk2⟩ := hj2
  have hs2 : ∀ j, σ2.2 0 j = S j := fun j => (hk2 j).trans (hs1 j)
  iterate 2 (refine tr_mv rfl (fun _ => rfl) ?_)
  refine tr_vc (q := 480) rfl isO_480 rfl rfl rfl (s_209 ?_)
  refine tr_mv rfl (fun _ => rfl) ?_
  rw [hz]
  refine tr_cmp2 rfl rfl rfl (fun _ => ?_) (fun e => absurd rfl e)
  refine tr_mv rfl (fun _ => rfl) ?_
  refine tr_if2 rfl rfl (fun _ => ?_) (fun e => ?_)
  · refine tr_mv rfl (fun _ => rfl) ?_
    exact K σ2 _ _ hR2 hs2
  · have hk0 : m32 k = 0 := Decidable.of_not_not e
    iterate 2 (refine tr_mv rfl (fun _ => rfl) ?_)
    refine tr_ll rfl ?_
    rw [hv hk0]
    iterate 3 (refine tr_mv rfl (fun _ => rfl) ?_)
    rw [lc0]
    refine tr_if2 rfl (m32_of (x := 0) ⟨by decide, by decide⟩) (fun _ => ?_) (fun e => absurd rfl e)
    refine tr_mv rfl (fun _ => rfl) ?_
    exact K σ2 _ _ hR2 hs2
set_option maxRecDepth 8000 in
theorem lw_10 (hR : StR σ) (hs : ∀ j, σ.2 0 j = S j) (h32 : ∀ j, in32 (S j)) (hi : i + 5 < Ls) (hL : Ls ≤ 3072) (K : lwK Ls N i S post) : Tr Ls (N + 1) 364 844 [some (mP (some 0)), some (mP (some 2)), some (mP (some 480)), some (mP (some 533)), some (mI (i : Int)), v5, v6] [] σ post := by
  refine tr_mv rfl (fun _ => rfl) ?_
  iterate 4 (refine tr_mv rfl (fun _ => rfl) ?_)
  refine tr_rd (j := 1) hs rfl (by omega) hL rfl ?_
  iterate 4 (refine tr_mv rfl (fun _ => rfl) ?_)
  refine tr_rd (j := 2) hs rfl (by omega) hL rfl ?_
  iterate 4 (refine tr_mv rfl (fun _ => rfl) ?_)
  refine tr_rd (j := 3) hs rfl (by omega) hL rfl ?_
  refine tr_mv rfl (fun _ => rfl) ?_
  refine tr_stat1 rfl rfl rfl (tr_post (tr_keep (op_10 hR (h32 _) (h32 _) (h32 _))) (fun o1 σ1 hj => ?_))
  obtain ⟨⟨k, rfl, hM⟩, hk1⟩ := hj
  have hs1 : ∀ j, σ1.2 0 j = S j := fun j => (hk1 j).trans (hs j)
  iterate 2 (refine tr_mv rfl (fun _ => rfl) ?_)
  iterate 4 (refine tr_mv rfl (fun _ => rfl) ?_)
  refine tr_rd (j := 1) hs1 rfl (by omega) hL rfl ?_
  iterate 4 (refine tr_mv rfl (fun _ => rfl) ?_)
  refine tr_rd (j := 2) hs1 rfl (by omega) hL rfl ?_
  iterate 4 (refine tr_mv rfl (fun _ => rfl) ?_)
  refine tr_rd (j := 3) hs1 rfl (by omega) hL rfl ?_
  refine tr_vc (q := 480) rfl isO_480 rfl rfl rfl (tr_post (tr_keep hM) (fun o2 σ2 hj2 => ?_))
  obtain ⟨⟨b9, rfl, hz, hv, hR2⟩, hk2⟩ := hj2
  have hs2 : ∀ j, σ2.2 0 j = S j := fun j => (hk2 j).trans (hs1 j)
  iterate 2 (refine tr_mv rfl (fun _ => rfl) ?_)
  refine tr_vc (q := 480) rfl isO_480 rfl rfl rfl (s_209 ?_)
  refine tr_mv rfl (fun _ => rfl) ?_
  rw [hz]
  refine tr_cmp2 rfl rfl rfl (fun _ => ?_) (fun e => absurd rfl e)
  refine tr_mv rfl (fun _ => rfl) ?_
  refine tr_if2 rfl rfl (fun _ => ?_) (fun e => ?_)
  · refine tr_mv rfl (fun _ => rfl) ?_
    exact K σ2 _ _ hR2 hs2
  · have hk0 : m32 k = 0 := Decidable.of_not_not e
    iterate 2 (refine tr_mv rfl (fun _ => rfl) ?_)
    refine tr_ll rfl ?_
    rw [hv hk0]
    iterate 3 (refine tr_mv rfl (fun _ => rfl) ?_)
    rw [lc0]
    refine tr_if2 rfl (m32_of (x := 0) ⟨by decide, by decide⟩) (fun _ => ?_) (fun e => absurd rfl e)
    refine tr_mv rfl (fun _ => rfl) ?_
    exact K σ2 _ _ hR2 hs2
set_option maxRecDepth 8000 in
theorem lw_11 (hR : StR σ) (hs : ∀ j, σ.2 0 j = S j) (h32 : ∀ j, in32 (S j)) (hi : i + 5 < Ls) (hL : Ls ≤ 3072) (K : lwK Ls N i S post) : Tr Ls (N + 1) 364 924 [some (mP (some 0)), some (mP (some 2)), some (mP (some 480)), some (mP (some 533)), some (mI (i : Int)), v5, v6] [] σ post := by
  refine tr_mv rfl (fun _ => rfl) ?_
  iterate 4 (refine tr_mv rfl (fun _ => rfl) ?_)
  refine tr_rd (j := 1) hs rfl (by omega) hL rfl ?_
  iterate 4 (refine tr_mv rfl (fun _ => rfl) ?_)
  refine tr_rd (j := 2) hs rfl (by omega) hL rfl ?_
  iterate 4 (refine tr_mv rfl (fun _ => rfl) ?_)
  refine tr_rd (j := 3) hs rfl (by omega) hL rfl ?_
  refine tr_mv rfl (fun _ => rfl) ?_
  refine tr_stat1 rfl rfl rfl (tr_post (tr_keep (op_11 hR (h32 _) (h32 _) (h32 _))) (fun o1 σ1 hj => ?_))
  obtain ⟨⟨k, rfl, hM⟩, hk1⟩ := hj
  have hs1 : ∀ j, σ1.2 0 j = S j := fun j => (hk1 j).trans (hs j)
  iterate 2 (refine tr_mv rfl (fun _ => rfl) ?_)
  iterate 4 (refine tr_mv rfl (fun _ => rfl) ?_)
  refine tr_rd (j := 1) hs1 rfl (by omega) hL rfl ?_
  iterate 4 (refine tr_mv rfl (fun _ => rfl) ?_)
  refine tr_rd (j := 2) hs1 rfl (by omega) hL rfl ?_
  iterate 4 (refine tr_mv rfl (fun _ => rfl) ?_)
  refine tr_rd (j := 3) hs1 rfl (by omega) hL rfl ?_
  refine tr_vc (q := 480) rfl isO_480 rfl rfl rfl (tr_post (tr_keep hM) (fun o2 σ2 hj2 => ?_))
  obtain ⟨⟨b9, rfl, hb9, hz, hv, hR2⟩, hk2⟩ := hj2
  have hs2 : ∀ j, σ2.2 0 j = S j := fun j => (hk2 j).trans (hs1 j)
  iterate 2 (refine tr_mv rfl (fun _ => rfl) ?_)
  refine tr_vc (q := 480) rfl isO_480 rfl rfl rfl (s_209 ?_)
  refine tr_mv rfl (fun _ => rfl) ?_
  rw [hz]
  refine tr_cmp2 rfl rfl rfl (fun _ => ?_) (fun e => absurd rfl e)
  refine tr_mv rfl (fun _ => rfl) ?_
  refine tr_if2 rfl rfl (fun _ => ?_) (fun e => ?_)
  · refine tr_mv rfl (fun _ => rfl) ?_
    exact K σ2 _ _ hR2 hs2
  · have hk0 : m32 k = 0 := Decidable.of_not_not e
    iterate 2 (refine tr_mv rfl (fun _ => rfl) ?_)
    refine tr_ll rfl ?_
    rw [hv hk0]
    refine tr_mv rfl (fun _ => rfl) ?_
    rcases hb9 with rfl | rfl
    · refine tr_if2 rfl (m32_of (x := 0) ⟨by decide, by decide⟩) (fun _ => ?_) (fun e => absurd rfl e)
      iterate 2 (refine tr_mv rfl (fun _ => rfl) ?_)
      change Tr _ _ _ _ _ (mI (if m64 0 < m64 0 then (-1 : Int) else if m64 0 = m64 0 then 0 else 1) :: _) _ _
      rw [lc0]
      refine tr_if2 rfl (m32_of (x := 0) ⟨by decide, by decide⟩) (fun _ => ?_) (fun e => absurd rfl e)
      refine tr_mv rfl (fun _ => rfl) ?_
      exact K σ2 _ _ hR2 hs2
    · refine tr_if2 rfl (m32_of (x := 1) ⟨by decide, by decide⟩) (fun e => absurd e (by decide)) (fun _ => ?_)
      iterate 3 (refine tr_mv rfl (fun _ => rfl) ?_)
      change Tr _ _ _ _ _ (mI (if m64 1 < m64 1 then (-1 : Int) else if m64 1 = m64 1 then 0 else 1) :: _) _ _
      rw [lc0]
      refine tr_if2 rfl (m32_of (x := 0) ⟨by decide, by decide⟩) (fun _ => ?_) (fun e => absurd rfl e)
      refine tr_mv rfl (fun _ => rfl) ?_
      exact K σ2 _ _ hR2 hs2
set_option maxRecDepth 8000 in
theorem lw_12 (hR : StR σ) (hs : ∀ j, σ.2 0 j = S j) (h32 : ∀ j, in32 (S j)) (hi : i + 5 < Ls) (hL : Ls ≤ 3072) (K : lwK Ls N i S post) : Tr Ls (N + 1) 364 1011 [some (mP (some 0)), some (mP (some 2)), some (mP (some 480)), some (mP (some 533)), some (mI (i : Int)), v5, v6] [] σ post := by
  refine tr_mv rfl (fun _ => rfl) ?_
  iterate 4 (refine tr_mv rfl (fun _ => rfl) ?_)
  refine tr_rd (j := 1) hs rfl (by omega) hL rfl ?_
  iterate 4 (refine tr_mv rfl (fun _ => rfl) ?_)
  refine tr_rd (j := 2) hs rfl (by omega) hL rfl ?_
  iterate 4 (refine tr_mv rfl (fun _ => rfl) ?_)
  refine tr_rd (j := 3) hs rfl (by omega) hL rfl ?_
  suffices key : Tr Ls (N + 1) 364 1038 [some (mP (some 0)), some (mP (some 2)), some (mP (some 480)), some (mP (some 533)), some (mI (i : Int)), v5, v6] [mI (bv (S (i + 3))), mI (S (i + 2)), mI (S (i + 1)), mP (some 2)] σ post by
    refine tr_if2 rfl (m32_of (h32 _)) (fun e => ?_) (fun e => ?_)
    · refine tr_mv rfl (fun _ => rfl) ?_
      rw [show bv (S (i + 3)) = 0 from if_pos e] at key
      exact key
    · iterate 2 (refine tr_mv rfl (fun _ => rfl) ?_)
      rw [show bv (S (i + 3)) = 1 from if_neg e] at key
      exact key
  refine tr_mv rfl (fun _ => rfl) ?_
  refine tr_stat1 rfl rfl rfl (tr_post (tr_keep (op_12 hR (h32 _) (h32 _) (bv_in _))) (fun o1 σ1 hj => ?_))
  obtain ⟨⟨k, rfl, hM⟩, hk1⟩ := hj
  have hs1 : ∀ j, σ1.2 0 j = S j := fun j => (hk1 j).trans (hs j)
  iterate 2 (refine tr_mv rfl (fun _ => rfl) ?_)
  iterate 4 (refine tr_mv rfl (fun _ => rfl) ?_)
  refine tr_rd (j := 1) hs1 rfl (by omega) hL rfl ?_
  iterate 4 (refine tr_mv rfl (fun _ => rfl) ?_)
  refine tr_rd (j := 2) hs1 rfl (by omega) hL rfl ?_
  iterate 4 (refine tr_mv rfl (fun _ => rfl) ?_)
  refine tr_rd (j := 3) hs1 rfl (by omega) hL rfl ?_
  suffices key : Tr Ls N 364 1071 [some (mP (some 0)), some (mP (some 2)), some (mP (some 480)), some (mP (some 533)), some (mI (i : Int)), some (mI k), v6] [mI (bv (S (i + 3))), mI (S (i + 2)), mI (S (i + 1)), mP (some 480)] σ1 post by
    refine tr_if2 rfl (m32_of (h32 _)) (fun e => ?_) (fun e => ?_)
    · refine tr_mv rfl (fun _ => rfl) ?_
      rw [show bv (S (i + 3)) = 0 from if_pos e] at key
      exact key
    · iterate 2 (refine tr_mv rfl (fun _ => rfl) ?_)
      rw [show bv (S (i + 3)) = 1 from if_neg e] at key
      exact key
  refine tr_vc (q := 480) rfl isO_480 rfl rfl rfl (tr_post (tr_keep hM) (fun o2 σ2 hj2 => ?_))
  obtain ⟨⟨b9, rfl, hb9, hz, hv, hR2⟩, hk2⟩ := hj2
  have hs2 : ∀ j, σ2.2 0 j = S j := fun j => (hk2 j).trans (hs1 j)
  iterate 2 (refine tr_mv rfl (fun _ => rfl) ?_)
  refine tr_vc (q := 480) rfl isO_480 rfl rfl rfl (s_209 ?_)
  refine tr_mv rfl (fun _ => rfl) ?_
  rw [hz]
  refine tr_cmp2 rfl rfl rfl (fun _ => ?_) (fun e => absurd rfl e)
  refine tr_mv rfl (fun _ => rfl) ?_
  refine tr_if2 rfl rfl (fun _ => ?_) (fun e => ?_)
  · refine tr_mv rfl (fun _ => rfl) ?_
    exact K σ2 _ _ hR2 hs2
  · have hk0 : m32 k = 0 := Decidable.of_not_not e
    iterate 2 (refine tr_mv rfl (fun _ => rfl) ?_)
    refine tr_ll rfl ?_
    rw [hv hk0]
    refine tr_mv rfl (fun _ => rfl) ?_
    rcases hb9 with rfl | rfl
    · refine tr_if2 rfl (m32_of (x := 0) ⟨by decide, by decide⟩) (fun _ => ?_) (fun e => absurd rfl e)
      iterate 2 (refine tr_mv rfl (fun _ => rfl) ?_)
      change Tr _ _ _ _ _ (mI (if m64 0 < m64 0 then (-1 : Int) else if m64 0 = m64 0 then 0 else 1) :: _) _ _
      rw [lc0]
      refine tr_if2 rfl (m32_of (x := 0) ⟨by decide, by decide⟩) (fun _ => ?_) (fun e => absurd rfl e)
      refine tr_mv rfl (fun _ => rfl) ?_
      exact K σ2 _ _ hR2 hs2
    · refine tr_if2 rfl (m32_of (x := 1) ⟨by decide, by decide⟩) (fun e => absurd e (by decide)) (fun _ => ?_)
      iterate 3 (refine tr_mv rfl (fun _ => rfl) ?_)
      change Tr _ _ _ _ _ (mI (if m64 1 < m64 1 then (-1 : Int) else if m64 1 = m64 1 then 0 else 1) :: _) _ _
      rw [lc0]
      refine tr_if2 rfl (m32_of (x := 0) ⟨by decide, by decide⟩) (fun _ => ?_) (fun e => absurd rfl e)
      refine tr_mv rfl (fun _ => rfl) ?_
      exact K σ2 _ _ hR2 hs2
set_option maxRecDepth 8000 in
theorem lw_13 (hR : StR σ) (hs : ∀ j, σ.2 0 j = S j) (h32 : ∀ j, in32 (S j)) (hi : i + 5 < Ls) (hL : Ls ≤ 3072) (K : lwK Ls N i S post) : Tr Ls (N + 1) 364 1114 [some (mP (some 0)), some (mP (some 2)), some (mP (some 480)), some (mP (some 533)), some (mI (i : Int)), v5, v6] [] σ post := by
  refine tr_mv rfl (fun _ => rfl) ?_
  iterate 4 (refine tr_mv rfl (fun _ => rfl) ?_)
  refine tr_rd (j := 1) hs rfl (by omega) hL rfl ?_
  refine tr_mv rfl (fun _ => rfl) ?_
  refine tr_stat1 rfl rfl rfl (tr_post (tr_keep (op_13 hR (h32 _))) (fun o1 σ1 hj => ?_))
  obtain ⟨⟨k, rfl, hM⟩, hk1⟩ := hj
  have hs1 : ∀ j, σ1.2 0 j = S j := fun j => (hk1 j).trans (hs j)
  iterate 2 (refine tr_mv rfl (fun _ => rfl) ?_)
  iterate 4 (refine tr_mv rfl (fun _ => rfl) ?_)
  refine tr_rd (j := 1) hs1 rfl (by omega) hL rfl ?_
  refine tr_vc (q := 480) rfl isO_480 rfl rfl rfl (tr_post (tr_keep hM) (fun o2 σ2 hj2 => ?_))
  obtain ⟨⟨b9, rfl, hz, hv, hR2⟩, hk2⟩ := hj2
  have hs2 : ∀ j, σ2.2 0 j = S j := fun j => (hk2 j).trans (hs1 j)
  iterate 2 (refine tr_mv rfl (fun _ => rfl) ?_)
  refine tr_vc (q := 480) rfl isO_480 rfl rfl rfl (s_209 ?_)
  refine tr_mv rfl (fun _ => rfl) ?_
  rw [hz]
  refine tr_cmp2 rfl rfl rfl (fun _ => ?_) (fun e => absurd rfl e)
  refine tr_mv rfl (fun _ => rfl) ?_
  refine tr_if2 rfl rfl (fun _ => ?_) (fun e => ?_)
  · refine tr_mv rfl (fun _ => rfl) ?_
    exact K σ2 _ _ hR2 hs2
  · have hk0 : m32 k = 0 := Decidable.of_not_not e
    iterate 2 (refine tr_mv rfl (fun _ => rfl) ?_)
    refine tr_ll rfl ?_
    rw [hv hk0]
    iterate 3 (refine tr_mv rfl (fun _ => rfl) ?_)
    rw [lc0]
    refine tr_if2 rfl (m32_of (x := 0) ⟨by decide, by decide⟩) (fun _ => ?_) (fun e => absurd rfl e)
    refine tr_mv rfl (fun _ => rfl) ?_
    exact K σ2 _ _ hR2 hs2
set_option maxRecDepth 8000 in
theorem lw_14 (hR : StR σ) (hs : ∀ j, σ.2 0 j = S j) (h32 : ∀ j, in32 (S j)) (hi : i + 5 < Ls) (hL : Ls ≤ 3072) (K : lwK Ls N i S post) : Tr Ls (N + 1) 364 1170 [some (mP (some 0)), some (mP (some 2)), some (mP (some 480)), some (mP (some 533)), some (mI (i : Int)), v5, v6] [] σ post := by
  refine tr_mv rfl (fun _ => rfl) ?_
  iterate 4 (refine tr_mv rfl (fun _ => rfl) ?_)
  refine tr_rd (j := 1) hs rfl (by omega) hL rfl ?_
  iterate 4 (refine tr_mv rfl (fun _ => rfl) ?_)
  refine tr_rd (j := 2) hs rfl (by omega) hL rfl ?_
  refine tr_mv rfl (fun _ => rfl) ?_
  refine tr_stat1 rfl rfl rfl (tr_post (tr_keep (op_14 hR (h32 _) (h32 _))) (fun o1 σ1 hj => ?_))
  obtain ⟨⟨k, rfl, hM⟩, hk1⟩ := hj
  have hs1 : ∀ j, σ1.2 0 j = S j := fun j => (hk1 j).trans (hs j)
  iterate 2 (refine tr_mv rfl (fun _ => rfl) ?_)
  iterate 4 (refine tr_mv rfl (fun _ => rfl) ?_)
  refine tr_rd (j := 1) hs1 rfl (by omega) hL rfl ?_
  iterate 4 (refine tr_mv rfl (fun _ => rfl) ?_)
  refine tr_rd (j := 2) hs1 rfl (by omega) hL rfl ?_
  refine tr_vc (q := 480) rfl isO_480 rfl rfl rfl (tr_post (tr_keep hM) (fun o2 σ2 hj2 => ?_))
  obtain ⟨⟨b9, rfl, hz, hv, hR2⟩, hk2⟩ := hj2
  have hs2 : ∀ j, σ2.2 0 j = S j := fun j => (hk2 j).trans (hs1 j)
  iterate 2 (refine tr_mv rfl (fun _ => rfl) ?_)
  refine tr_vc (q := 480) rfl isO_480 rfl rfl rfl (s_209 ?_)
  refine tr_mv rfl (fun _ => rfl) ?_
  rw [hz]
  refine tr_cmp2 rfl rfl rfl (fun _ => ?_) (fun e => absurd rfl e)
  refine tr_mv rfl (fun _ => rfl) ?_
  refine tr_if2 rfl rfl (fun _ => ?_) (fun e => ?_)
  · refine tr_mv rfl (fun _ => rfl) ?_
    exact K σ2 _ _ hR2 hs2
  · have hk0 : m32 k = 0 := Decidable.of_not_not e
    iterate 2 (refine tr_mv rfl (fun _ => rfl) ?_)
    refine tr_ll rfl ?_
    rw [hv hk0]
    iterate 3 (refine tr_mv rfl (fun _ => rfl) ?_)
    rw [lc0]
    refine tr_if2 rfl (m32_of (x := 0) ⟨by decide, by decide⟩) (fun _ => ?_) (fun e => absurd rfl e)
    refine tr_mv rfl (fun _ => rfl) ?_
    exact K σ2 _ _ hR2 hs2
set_option maxRecDepth 8000 in
theorem lw_15 (hR : StR σ) (hs : ∀ j, σ.2 0 j = S j) (h32 : ∀ j, in32 (S j)) (hi : i + 5 < Ls) (hL : Ls ≤ 3072) (K : lwK Ls N i S post) : Tr Ls (N + 1) 364 1238 [some (mP (some 0)), some (mP (some 2)), some (mP (some 480)), some (mP (some 533)), some (mI (i : Int)), v5, v6] [] σ post := by
  refine tr_mv rfl (fun _ => rfl) ?_
  iterate 4 (refine tr_mv rfl (fun _ => rfl) ?_)
  refine tr_rd (j := 1) hs rfl (by omega) hL rfl ?_
  iterate 4 (refine tr_mv rfl (fun _ => rfl) ?_)
  refine tr_rd (j := 2) hs rfl (by omega) hL rfl ?_
  refine tr_mv rfl (fun _ => rfl) ?_
  refine tr_stat1 rfl rfl rfl (tr_post (tr_keep (op_15 hR (h32 _) (h32 _))) (fun o1 σ1 hj => ?_))
  obtain ⟨⟨k, rfl, hM⟩, hk1⟩ := hj
  have hs1 : ∀ j, σ1.2 0 j = S j := fun j => (hk1 j).trans (hs j)
  iterate 2 (refine tr_mv rfl (fun _ => rfl) ?_)
  iterate 4 (refine tr_mv rfl (fun _ => rfl) ?_)
  refine tr_rd (j := 1) hs1 rfl (by omega) hL rfl ?_
  iterate 4 (refine tr_mv rfl (fun _ => rfl) ?_)
  refine tr_rd (j := 2) hs1 rfl (by omega) hL rfl ?_
  refine tr_vc (q := 480) rfl isO_480 rfl rfl rfl (tr_post (tr_keep hM) (fun o2 σ2 hj2 => ?_))
  obtain ⟨⟨b9, rfl, hz, hv, hR2⟩, hk2⟩ := hj2
  have hs2 : ∀ j, σ2.2 0 j = S j := fun j => (hk2 j).trans (hs1 j)
  iterate 2 (refine tr_mv rfl (fun _ => rfl) ?_)
  refine tr_vc (q := 480) rfl isO_480 rfl rfl rfl (s_209 ?_)
  refine tr_mv rfl (fun _ => rfl) ?_
  rw [hz]
  refine tr_cmp2 rfl rfl rfl (fun _ => ?_) (fun e => absurd rfl e)
  refine tr_mv rfl (fun _ => rfl) ?_
  refine tr_if2 rfl rfl (fun _ => ?_) (fun e => ?_)
  · refine tr_mv rfl (fun _ => rfl) ?_
    exact K σ2 _ _ hR2 hs2
  · have hk0 : m32 k = 0 := Decidable.of_not_not e
    iterate 2 (refine tr_mv rfl (fun _ => rfl) ?_)
    refine tr_ll rfl ?_
    rw [hv hk0]
    iterate 3 (refine tr_mv rfl (fun _ => rfl) ?_)
    rw [lc0]
    refine tr_if2 rfl (m32_of (x := 0) ⟨by decide, by decide⟩) (fun _ => ?_) (fun e => absurd rfl e)
    refine tr_mv rfl (fun _ => rfl) ?_
    exact K σ2 _ _ hR2 hs2
set_option maxRecDepth 8000 in
theorem lw_16 (hR : StR σ) (hs : ∀ j, σ.2 0 j = S j) (h32 : ∀ j, in32 (S j)) (hi : i + 5 < Ls) (hL : Ls ≤ 3072) (K : lwK Ls N i S post) : Tr Ls (N + 1) 364 1306 [some (mP (some 0)), some (mP (some 2)), some (mP (some 480)), some (mP (some 533)), some (mI (i : Int)), v5, v6] [] σ post := by
  refine tr_mv rfl (fun _ => rfl) ?_
  iterate 4 (refine tr_mv rfl (fun _ => rfl) ?_)
  refine tr_rd (j := 1) hs rfl (by omega) hL rfl ?_
  iterate 4 (refine tr_mv rfl (fun _ => rfl) ?_)
  refine tr_rd (j := 2) hs rfl (by omega) hL rfl ?_
  refine tr_mv rfl (fun _ => rfl) ?_
  refine tr_stat1 rfl rfl rfl (tr_post (tr_keep (op_16 hR (h32 _) (h32 _))) (fun o1 σ1 hj => ?_))
  obtain ⟨⟨k, rfl, hM⟩, hk1⟩ := hj
  have hs1 : ∀ j, σ1.2 0 j = S j := fun j => (hk1 j).trans (hs j)
  iterate 2 (refine tr_mv rfl (fun _ => rfl) ?_)
  iterate 4 (refine tr_mv rfl (fun _ => rfl) ?_)
  refine tr_rd (j := 1) hs1 rfl (by omega) hL rfl ?_
  iterate 4 (refine tr_mv rfl (fun _ => rfl) ?_)
  refine tr_rd (j := 2) hs1 rfl (by omega) hL rfl ?_
  refine tr_vc (q := 480) rfl isO_480 rfl rfl rfl (tr_post (tr_keep hM) (fun o2 σ2 hj2 => ?_))
  obtain ⟨⟨b9, rfl, hz, hv, hR2⟩, hk2⟩ := hj2
  have hs2 : ∀ j, σ2.2 0 j = S j := fun j => (hk2 j).trans (hs1 j)
  iterate 2 (refine tr_mv rfl (fun _ => rfl) ?_)
  refine tr_vc (q := 480) rfl isO_480 rfl rfl rfl (s_209 ?_)
  refine tr_mv rfl (fun _ => rfl) ?_
  rw [hz]
  refine tr_cmp2 rfl rfl rfl (fun _ => ?_) (fun e => absurd rfl e)
  refine tr_mv rfl (fun _ => rfl) ?_
  refine tr_if2 rfl rfl (fun _ => ?_) (fun e => ?_)
  · refine tr_mv rfl (fun _ => rfl) ?_
    exact K σ2 _ _ hR2 hs2
  · have hk0 : m32 k = 0 := Decidable.of_not_not e
    iterate 2 (refine tr_mv rfl (fun _ => rfl) ?_)
    refine tr_ll rfl ?_
    rw [hv hk0]
    iterate 3 (refine tr_mv rfl (fun _ => rfl) ?_)
    rw [lc0]
    refine tr_if2 rfl (m32_of (x := 0) ⟨by decide, by decide⟩) (fun _ => ?_) (fun e => absurd rfl e)
    refine tr_mv rfl (fun _ => rfl) ?_
    exact K σ2 _ _ hR2 hs2
set_option maxRecDepth 8000 in
theorem lw_17 (hR : StR σ) (hs : ∀ j, σ.2 0 j = S j) (h32 : ∀ j, in32 (S j)) (hi : i + 5 < Ls) (hL : Ls ≤ 3072) (K : lwK Ls N i S post) : Tr Ls (N + 1) 364 1374 [some (mP (some 0)), some (mP (some 2)), some (mP (some 480)), some (mP (some 533)), some (mI (i : Int)), v5, v6] [] σ post := by
  refine tr_mv rfl (fun _ => rfl) ?_
  refine tr_mv rfl (fun _ => rfl) ?_
  refine tr_stat1 rfl rfl rfl (tr_post (tr_keep (op_17 hR )) (fun o1 σ1 hj => ?_))
  obtain ⟨⟨k, rfl, hM⟩, hk1⟩ := hj
  have hs1 : ∀ j, σ1.2 0 j = S j := fun j => (hk1 j).trans (hs j)
  iterate 2 (refine tr_mv rfl (fun _ => rfl) ?_)
  refine tr_vc (q := 480) rfl isO_480 rfl rfl rfl (tr_post (tr_keep hM) (fun o2 σ2 hj2 => ?_))
  obtain ⟨⟨b9, rfl, hz, hv, hR2⟩, hk2⟩ := hj2
  have hs2 : ∀ j, σ2.2 0 j = S j := fun j => (hk2 j).trans (hs1 j)
  iterate 2 (refine tr_mv rfl (fun _ => rfl) ?_)
  refine tr_vc (q := 480) rfl isO_480 rfl rfl rfl (s_209 ?_)
  refine tr_mv rfl (fun _ => rfl) ?_
  rw [hz]
  refine tr_cmp2 rfl rfl rfl (fun _ => ?_) (fun e => absurd rfl e)
  refine tr_mv rfl (fun _ => rfl) ?_
  refine tr_if2 rfl rfl (fun _ => ?_) (fun e => ?_)
  · refine tr_mv rfl (fun _ => rfl) ?_
    exact K σ2 _ _ hR2 hs2
  · have hk0 : m32 k = 0 := Decidable.of_not_not e
    iterate 2 (refine tr_mv rfl (fun _ => rfl) ?_)
    refine tr_ll rfl ?_
    rw [hv hk0]
    iterate 3 (refine tr_mv rfl (fun _ => rfl) ?_)
    rw [lc0]
    refine tr_if2 rfl (m32_of (x := 0) ⟨by decide, by decide⟩) (fun _ => ?_) (fun e => absurd rfl e)
    refine tr_mv rfl (fun _ => rfl) ?_
    exact K σ2 _ _ hR2 hs2
set_option maxRecDepth 8000 in
theorem lw_18 (hR : StR σ) (hs : ∀ j, σ.2 0 j = S j) (h32 : ∀ j, in32 (S j)) (hi : i + 5 < Ls) (hL : Ls ≤ 3072) (K : lwK Ls N i S post) : Tr Ls (N + 1) 364 1418 [some (mP (some 0)), some (mP (some 2)), some (mP (some 480)), some (mP (some 533)), some (mI (i : Int)), v5, v6] [] σ post := by
  refine tr_mv rfl (fun _ => rfl) ?_
  iterate 4 (refine tr_mv rfl (fun _ => rfl) ?_)
  refine tr_rd (j := 1) hs rfl (by omega) hL rfl ?_
  iterate 4 (refine tr_mv rfl (fun _ => rfl) ?_)
  refine tr_rd (j := 2) hs rfl (by omega) hL rfl ?_
  refine tr_mv rfl (fun _ => rfl) ?_
  refine tr_stat1 rfl rfl rfl (tr_post (tr_keep (op_18 hR (h32 _) (h32 _))) (fun o1 σ1 hj => ?_))
  obtain ⟨⟨k, rfl, hM⟩, hk1⟩ := hj
  have hs1 : ∀ j, σ1.2 0 j = S j := fun j => (hk1 j).trans (hs j)
  iterate 2 (refine tr_mv rfl (fun _ => rfl) ?_)
  iterate 4 (refine tr_mv rfl (fun _ => rfl) ?_)
  refine tr_rd (j := 1) hs1 rfl (by omega) hL rfl ?_
  iterate 4 (refine tr_mv rfl (fun _ => rfl) ?_)
  refine tr_rd (j := 2) hs1 rfl (by omega) hL rfl ?_
  refine tr_vc (q := 480) rfl isO_480 rfl rfl rfl (tr_post (tr_keep hM) (fun o2 σ2 hj2 => ?_))
  obtain ⟨⟨b9, rfl, hz, hv, hR2⟩, hk2⟩ := hj2
  have hs2 : ∀ j, σ2.2 0 j = S j := fun j => (hk2 j).trans (hs1 j)
  iterate 2 (refine tr_mv rfl (fun _ => rfl) ?_)
  refine tr_vc (q := 480) rfl isO_480 rfl rfl rfl (s_209 ?_)
  refine tr_mv rfl (fun _ => rfl) ?_
  rw [hz]
  refine tr_cmp2 rfl rfl rfl (fun _ => ?_) (fun e => absurd rfl e)
  refine tr_mv rfl (fun _ => rfl) ?_
  refine tr_if2 rfl rfl (fun _ => ?_) (fun e => ?_)
  · refine tr_mv rfl (fun _ => rfl) ?_
    exact K σ2 _ _ hR2 hs2
  · have hk0 : m32 k = 0 := Decidable.of_not_not e
    iterate 2 (refine tr_mv rfl (fun _ => rfl) ?_)
    refine tr_ll rfl ?_
    rw [hv hk0]
    iterate 3 (refine tr_mv rfl (fun _ => rfl) ?_)
    rw [lc0]
    refine tr_if2 rfl (m32_of (x := 0) ⟨by decide, by decide⟩) (fun _ => ?_) (fun e => absurd rfl e)
    refine tr_mv rfl (fun _ => rfl) ?_
    exact K σ2 _ _ hR2 hs2
set_option maxRecDepth 8000 in
theorem lw_19 (hR : StR σ) (hs : ∀ j, σ.2 0 j = S j) (h32 : ∀ j, in32 (S j)) (hi : i + 5 < Ls) (hL : Ls ≤ 3072) (K : lwK Ls N i S post) : Tr Ls (N + 1) 364 1486 [some (mP (some 0)), some (mP (some 2)), some (mP (some 480)), some (mP (some 533)), some (mI (i : Int)), v5, v6] [] σ post := by
  refine tr_mv rfl (fun _ => rfl) ?_
  refine tr_vc1 (q := 2) rfl ⟨by decide, by decide +kernel⟩ rfl rfl rfl (tr_post (tr_keep (op_19 hR)) (fun o1 σ1 hj => ?_))
  obtain ⟨⟨v, rfl, hM⟩, hk1⟩ := hj
  refine tr_mv rfl (fun _ => rfl) ?_
  refine tr_vc (q := 480) rfl isO_480 rfl rfl rfl (tr_post (tr_keep hM) (fun o2 σ2 hj2 => ?_))
  obtain ⟨⟨rfl, hR2⟩, hk2⟩ := hj2
  refine tr_cmp2 rfl rfl rfl (fun _ => ?_) (fun e => absurd rfl e)
  exact K σ2 _ _ hR2 (fun j => (hk2 j).trans ((hk1 j).trans (hs j)))
set_option maxRecDepth 8000 in
theorem lw_20 (hR : StR σ) (hs : ∀ j, σ.2 0 j = S j) (h32 : ∀ j, in32 (S j)) (hi : i + 5 < Ls) (hL : Ls ≤ 3072) (K : lwK Ls N i S post) : Tr Ls (N + 1) 364 1499 [some (mP (some 0)), some (mP (some 2)), some (mP (some 480)), some (mP (some 533)), some (mI (i : Int)), v5, v6] [] σ post := by
  refine tr_mv rfl (fun _ => rfl) ?_
  iterate 4 (refine tr_mv rfl (fun _ => rfl) ?_)
  refine tr_rd (j := 1) hs rfl (by omega) hL rfl ?_
  iterate 4 (refine tr_mv rfl (fun _ => rfl) ?_)
  refine tr_rd (j := 2) hs rfl (by omega) hL rfl ?_
  suffices key : Tr Ls (N + 1) 364 1520 [some (mP (some 0)), some (mP (some 2)), some (mP (some 480)), some (mP (some 533)), some (mI (i : Int)), v5, v6] [mI (bv (S (i + 2))), mI (S (i + 1)), mP (some 2)] σ post by
    refine tr_if2 rfl (m32_of (h32 _)) (fun e => ?_) (fun e => ?_)
    · refine tr_mv rfl (fun _ => rfl) ?_
      rw [show bv (S (i + 2)) = 0 from if_pos e] at key
      exact key
    · iterate 2 (refine tr_mv rfl (fun _ => rfl) ?_)
      rw [show bv (S (i + 2)) = 1 from if_neg e] at key
      exact key
  iterate 4 (refine tr_mv rfl (fun _ => rfl) ?_)
  refine tr_rd (j := 3) hs rfl (by omega) hL rfl ?_
  refine tr_mv rfl (fun _ => rfl) ?_
  refine tr_stat1 rfl rfl rfl (tr_post (tr_keep (op_20 hR (h32 _) (bv_in _) (h32 _))) (fun o1 σ1 hj => ?_))
  obtain ⟨⟨k, rfl, hM⟩, hk1⟩ := hj
  have hs1 : ∀ j, σ1.2 0 j = S j := fun j => (hk1 j).trans (hs j)
  iterate 2 (refine tr_mv rfl (fun _ => rfl) ?_)
  iterate 4 (refine tr_mv rfl (fun _ => rfl) ?_)
  refine tr_rd (j := 1) hs1 rfl (by omega) hL rfl ?_
  iterate 4 (refine tr_mv rfl (fun _ => rfl) ?_)
  refine tr_rd (j := 2) hs1 rfl (by omega) hL rfl ?_
  suffices key : Tr Ls N 364 1553 [some (mP (some 0)), some (mP (some 2)), some (mP (some 480)), some (mP (some 533)), some (mI (i : Int)), some (mI k), v6] [mI (bv (S (i + 2))), mI (S (i + 1)), mP (some 480)] σ1 post by
    refine tr_if2 rfl (m32_of (h32 _)) (fun e => ?_) (fun e => ?_)
    · refine tr_mv rfl (fun _ => rfl) ?_
      rw [show bv (S (i + 2)) = 0 from if_pos e] at key
      exact key
    · iterate 2 (refine tr_mv rfl (fun _ => rfl) ?_)
      rw [show bv (S (i + 2)) = 1 from if_neg e] at key
      exact key
  iterate 4 (refine tr_mv rfl (fun _ => rfl) ?_)
  refine tr_rd (j := 3) hs1 rfl (by omega) hL rfl ?_
  refine tr_vc (q := 480) rfl isO_480 rfl rfl rfl (tr_post (tr_keep hM) (fun o2 σ2 hj2 => ?_))
  obtain ⟨⟨b9, rfl, hz, hv, hR2⟩, hk2⟩ := hj2
  have hs2 : ∀ j, σ2.2 0 j = S j := fun j => (hk2 j).trans (hs1 j)
  iterate 2 (refine tr_mv rfl (fun _ => rfl) ?_)
  refine tr_vc (q := 480) rfl isO_480 rfl rfl rfl (s_209 ?_)
  refine tr_mv rfl (fun _ => rfl) ?_
  rw [hz]
  refine tr_cmp2 rfl rfl rfl (fun _ => ?_) (fun e => absurd rfl e)
  refine tr_mv rfl (fun _ => rfl) ?_
  refine tr_if2 rfl rfl (fun _ => ?_) (fun e => ?_)
  · refine tr_mv rfl (fun _ => rfl) ?_
    exact K σ2 _ _ hR2 hs2
  · have hk0 : m32 k = 0 := Decidable.of_not_not e
    iterate 2 (refine tr_mv rfl (fun _ => rfl) ?_)
    refine tr_ll rfl ?_
    rw [hv hk0]
    iterate 3 (refine tr_mv rfl (fun _ => rfl) ?_)
    rw [lc0]
    refine tr_if2 rfl (m32_of (x := 0) ⟨by decide, by decide⟩) (fun _ => ?_) (fun e => absurd rfl e)
    refine tr_mv rfl (fun _ => rfl) ?_
    exact K σ2 _ _ hR2 hs2
set_option maxRecDepth 8000 in
theorem lw_21 (hR : StR σ) (hs : ∀ j, σ.2 0 j = S j) (h32 : ∀ j, in32 (S j)) (hi : i + 5 < Ls) (hL : Ls ≤ 3072) (K : lwK Ls N i S post) : Tr Ls (N + 1) 364 1595 [some (mP (some 0)), some (mP (some 2)), some (mP (some 480)), some (mP (some 533)), some (mI (i : Int)), v5, v6] [] σ post := by
  refine tr_mv rfl (fun _ => rfl) ?_
  iterate 4 (refine tr_mv rfl (fun _ => rfl) ?_)
  refine tr_rd (j := 1) hs rfl (by omega) hL rfl ?_
  refine tr_mv rfl (fun _ => rfl) ?_
  refine tr_stat1 rfl rfl rfl (tr_post (tr_keep (op_21 hR (h32 _))) (fun o1 σ1 hj => ?_))
  obtain ⟨⟨k, rfl, hM⟩, hk1⟩ := hj
  have hs1 : ∀ j, σ1.2 0 j = S j := fun j => (hk1 j).trans (hs j)
  iterate 2 (refine tr_mv rfl (fun _ => rfl) ?_)
  iterate 4 (refine tr_mv rfl (fun _ => rfl) ?_)
  refine tr_rd (j := 1) hs1 rfl (by omega) hL rfl ?_
  refine tr_vc (q := 480) rfl isO_480 rfl rfl rfl (tr_post (tr_keep hM) (fun o2 σ2 hj2 => ?_))
  obtain ⟨⟨b9, rfl, hz, hv, hR2⟩, hk2⟩ := hj2
  have hs2 : ∀ j, σ2.2 0 j = S j := fun j => (hk2 j).trans (hs1 j)
  iterate 2 (refine tr_mv rfl (fun _ => rfl) ?_)
  refine tr_vc (q := 480) rfl isO_480 rfl rfl rfl (s_209 ?_)
  refine tr_mv rfl (fun _ => rfl) ?_
  rw [hz]
  refine tr_cmp2 rfl rfl rfl (fun _ => ?_) (fun e => absurd rfl e)
  refine tr_mv rfl (fun _ => rfl) ?_
  refine tr_if2 rfl rfl (fun _ => ?_) (fun e => ?_)
  · refine tr_mv rfl (fun _ => rfl) ?_
    exact K σ2 _ _ hR2 hs2
  · have hk0 : m32 k = 0 := Decidable.of_not_not e
    iterate 2 (refine tr_mv rfl (fun _ => rfl) ?_)
    refine tr_ll rfl ?_
    rw [hv hk0]
    iterate 3 (refine tr_mv rfl (fun _ => rfl) ?_)
    rw [lc0]
    refine tr_if2 rfl (m32_of (x := 0) ⟨by decide, by decide⟩) (fun _ => ?_) (fun e => absurd rfl e)
    refine tr_mv rfl (fun _ => rfl) ?_
    exact K σ2 _ _ hR2 hs2
set_option maxRecDepth 8000 in
theorem lw_22 (hR : StR σ) (hs : ∀ j, σ.2 0 j = S j) (h32 : ∀ j, in32 (S j)) (hi : i + 5 < Ls) (hL : Ls ≤ 3072) (K : lwK Ls N i S post) : Tr Ls (N + 1) 364 1651 [some (mP (some 0)), some (mP (some 2)), some (mP (some 480)), some (mP (some 533)), some (mI (i : Int)), v5, v6] [] σ post := by
  refine tr_mv rfl (fun _ => rfl) ?_
  iterate 4 (refine tr_mv rfl (fun _ => rfl) ?_)
  refine tr_rd (j := 1) hs rfl (by omega) hL rfl ?_
  iterate 4 (refine tr_mv rfl (fun _ => rfl) ?_)
  refine tr_rd (j := 2) hs rfl (by omega) hL rfl ?_
  refine tr_mv rfl (fun _ => rfl) ?_
  refine tr_stat1 rfl rfl rfl (tr_post (tr_keep (op_22 hR (h32 _) (h32 _))) (fun o1 σ1 hj => ?_))
  obtain ⟨⟨k, rfl, hM⟩, hk1⟩ := hj
  have hs1 : ∀ j, σ1.2 0 j = S j := fun j => (hk1 j).trans (hs j)
  iterate 2 (refine tr_mv rfl (fun _ => rfl) ?_)
  iterate 4 (refine tr_mv rfl (fun _ => rfl) ?_)
  refine tr_rd (j := 1) hs1 rfl (by omega) hL rfl ?_
  iterate 4 (refine tr_mv rfl (fun _ => rfl) ?_)
  refine tr_rd (j := 2) hs1 rfl (by omega) hL rfl ?_
  refine tr_vc (q := 480) rfl isO_480 rfl rfl rfl (tr_post (tr_keep hM) (fun o2 σ2 hj2 => ?_))
  obtain ⟨⟨b9, rfl, hz, hv, hR2⟩, hk2⟩ := hj2
  have hs2 : ∀ j, σ2.2 0 j = S j := fun j => (hk2 j).trans (hs1 j)
  iterate 2 (refine tr_mv rfl (fun _ => rfl) ?_)
  refine tr_vc (q := 480) rfl isO_480 rfl rfl rfl (s_209 ?_)
  refine tr_mv rfl (fun _ => rfl) ?_
  rw [hz]
  refine tr_cmp2 rfl rfl rfl (fun _ => ?_) (fun e => absurd rfl e)
  refine tr_mv rfl (fun _ => rfl) ?_
  refine tr_if2 rfl rfl (fun _ => ?_) (fun e => ?_)
  · refine tr_mv rfl (fun _ => rfl) ?_
    exact K σ2 _ _ hR2 hs2
  · have hk0 : m32 k = 0 := Decidable.of_not_not e
    iterate 2 (refine tr_mv rfl (fun _ => rfl) ?_)
    refine tr_ll rfl ?_
    rw [hv hk0]
    iterate 3 (refine tr_mv rfl (fun _ => rfl) ?_)
    rw [lc0]
    refine tr_if2 rfl (m32_of (x := 0) ⟨by decide, by decide⟩) (fun _ => ?_) (fun e => absurd rfl e)
    refine tr_mv rfl (fun _ => rfl) ?_
    exact K σ2 _ _ hR2 hs2
set_option maxRecDepth 8000 in
theorem lw_23 (hR : StR σ) (hs : ∀ j, σ.2 0 j = S j) (h32 : ∀ j, in32 (S j)) (hi : i + 5 < Ls) (hL : Ls ≤ 3072) (K : lwK Ls N i S post) : Tr Ls (N + 1) 364 1719 [some (mP (some 0)), some (mP (some 2)), some (mP (some 480)), some (mP (some 533)), some (mI (i : Int)), v5, v6] [] σ post := by
  refine tr_mv rfl (fun _ => rfl) ?_
  iterate 4 (refine tr_mv rfl (fun _ => rfl) ?_)
  refine tr_rd (j := 1) hs rfl (by omega) hL rfl ?_
  iterate 4 (refine tr_mv rfl (fun _ => rfl) ?_)
  refine tr_rd (j := 2) hs rfl (by omega) hL rfl ?_
  iterate 4 (refine tr_mv rfl (fun _ => rfl) ?_)
  refine tr_rd (j := 3) hs rfl (by omega) hL rfl ?_
  refine tr_mv rfl (fun _ => rfl) ?_
  refine tr_stat1 rfl rfl rfl (tr_post (tr_keep (op_23 hR (h32 _) (h32 _) (h32 _))) (fun o1 σ1 hj => ?_))
  obtain ⟨⟨k, rfl, hM⟩, hk1⟩ := hj
  have hs1 : ∀ j, σ1.2 0 j = S j := fun j => (hk1 j).trans (hs j)
  iterate 2 (refine tr_mv rfl (fun _ => rfl) ?_)
  iterate 4 (refine tr_mv rfl (fun _ => rfl) ?_)
  refine tr_rd (j := 1) hs1 rfl (by omega) hL rfl ?_
  iterate 4 (refine tr_mv rfl (fun _ => rfl) ?_)
  refine tr_rd (j := 2) hs1 rfl (by omega) hL rfl ?_
  iterate 4 (refine tr_mv rfl (fun _ => rfl) ?_)
  refine tr_rd (j := 3) hs1 rfl (by omega) hL rfl ?_
  refine tr_vc (q := 480) rfl isO_480 rfl rfl rfl (tr_post (tr_keep hM) (fun o2 σ2 hj2 => ?_))
  obtain ⟨⟨b9, rfl, hz, hv, hR2⟩, hk2⟩ := hj2
  have hs2 : ∀ j, σ2.2 0 j = S j := fun j => (hk2 j).trans (hs1 j)
  iterate 2 (refine tr_mv rfl (fun _ => rfl) ?_)
  refine tr_vc (q := 480) rfl isO_480 rfl rfl rfl (s_209 ?_)
  refine tr_mv rfl (fun _ => rfl) ?_
  rw [hz]
  refine tr_cmp2 rfl rfl rfl (fun _ => ?_) (fun e => absurd rfl e)
  refine tr_mv rfl (fun _ => rfl) ?_
  refine tr_if2 rfl rfl (fun _ => ?_) (fun e => ?_)
  · refine tr_mv rfl (fun _ => rfl) ?_
    exact K σ2 _ _ hR2 hs2
  · have hk0 : m32 k = 0 := Decidable.of_not_not e
    iterate 2 (refine tr_mv rfl (fun _ => rfl) ?_)
    refine tr_ll rfl ?_
    rw [hv hk0]
    iterate 3 (refine tr_mv rfl (fun _ => rfl) ?_)
    rw [lc0]
    refine tr_if2 rfl (m32_of (x := 0) ⟨by decide, by decide⟩) (fun _ => ?_) (fun e => absurd rfl e)
    refine tr_mv rfl (fun _ => rfl) ?_
    exact K σ2 _ _ hR2 hs2
set_option maxRecDepth 8000 in
theorem lw_24 (hR : StR σ) (hs : ∀ j, σ.2 0 j = S j) (h32 : ∀ j, in32 (S j)) (hi : i + 5 < Ls) (hL : Ls ≤ 3072) (K : lwK Ls N i S post) : Tr Ls (N + 1) 364 1799 [some (mP (some 0)), some (mP (some 2)), some (mP (some 480)), some (mP (some 533)), some (mI (i : Int)), v5, v6] [] σ post := by
  refine tr_mv rfl (fun _ => rfl) ?_
  iterate 4 (refine tr_mv rfl (fun _ => rfl) ?_)
  refine tr_rd (j := 1) hs rfl (by omega) hL rfl ?_
  iterate 4 (refine tr_mv rfl (fun _ => rfl) ?_)
  refine tr_rd (j := 2) hs rfl (by omega) hL rfl ?_
  iterate 4 (refine tr_mv rfl (fun _ => rfl) ?_)
  refine tr_rd (j := 3) hs rfl (by omega) hL rfl ?_
  iterate 4 (refine tr_mv rfl (fun _ => rfl) ?_)
  refine tr_rd (j := 4) hs rfl (by omega) hL rfl ?_
  refine tr_mv rfl (fun _ => rfl) ?_
  refine tr_stat1 rfl rfl rfl (tr_post (tr_keep (op_24 hR (h32 _) (h32 _) (h32 _) (h32 _))) (fun o1 σ1 hj => ?_))
  obtain ⟨⟨k, rfl, hM⟩, hk1⟩ := hj
  have hs1 : ∀ j, σ1.2 0 j = S j := fun j => (hk1 j).trans (hs j)
  iterate 2 (refine tr_mv rfl (fun _ => rfl) ?_)
  iterate 4 (refine tr_mv rfl (fun _ => rfl) ?_)
  refine tr_rd (j := 1) hs1 rfl (by omega) hL rfl ?_
  iterate 4 (refine tr_mv rfl (fun _ => rfl) ?_)
  refine tr_rd (j := 2) hs1 rfl (by omega) hL rfl ?_
  iterate 4 (refine tr_mv rfl (fun _ => rfl) ?_)
  refine tr_rd (j := 3) hs1 rfl (by omega) hL rfl ?_
  iterate 4 (refine tr_mv rfl (fun _ => rfl) ?_)
  refine tr_rd (j := 4) hs1 rfl (by omega) hL rfl ?_
  refine tr_vc (q := 480) rfl isO_480 rfl rfl rfl (tr_post (tr_keep hM) (fun o2 σ2 hj2 => ?_))
  obtain ⟨⟨b9, rfl, hz, hv, hR2⟩, hk2⟩ := hj2
  have hs2 : ∀ j, σ2.2 0 j = S j := fun j => (hk2 j).trans (hs1 j)
  iterate 2 (refine tr_mv rfl (fun _ => rfl) ?_)
  refine tr_vc (q := 480) rfl isO_480 rfl rfl rfl (s_209 ?_)
  refine tr_mv rfl (fun _ => rfl) ?_
  rw [hz]
  refine tr_cmp2 rfl rfl rfl (fun _ => ?_) (fun e => absurd rfl e)
  refine tr_mv rfl (fun _ => rfl) ?_
  refine tr_if2 rfl rfl (fun _ => ?_) (fun e => ?_)
  · refine tr_mv rfl (fun _ => rfl) ?_
    exact K σ2 _ _ hR2 hs2
  · have hk0 : m32 k = 0 := Decidable.of_not_not e
    iterate 2 (refine tr_mv rfl (fun _ => rfl) ?_)
    refine tr_ll rfl ?_
    rw [hv hk0]
    iterate 3 (refine tr_mv rfl (fun _ => rfl) ?_)
    rw [lc0]
    refine tr_if2 rfl (m32_of (x := 0) ⟨by decide, by decide⟩) (fun _ => ?_) (fun e => absurd rfl e)
    refine tr_mv rfl (fun _ => rfl) ?_
    exact K σ2 _ _ hR2 hs2
set_option maxRecDepth 8000 in
theorem lw_25 (hR : StR σ) (hs : ∀ j, σ.2 0 j = S j) (h32 : ∀ j, in32 (S j)) (hi : i + 5 < Ls) (hL : Ls ≤ 3072) (K : lwK Ls N i S post) : Tr Ls (N + 1) 364 1891 [some (mP (some 0)), some (mP (some 2)), some (mP (some 480)), some (mP (some 533)), some (mI (i : Int)), v5, v6] [] σ post := by
  refine tr_mv rfl (fun _ => rfl) ?_
  iterate 4 (refine tr_mv rfl (fun _ => rfl) ?_)
  refine tr_rd (j := 1) hs rfl (by omega) hL rfl ?_
  iterate 4 (refine tr_mv rfl (fun _ => rfl) ?_)
  refine tr_rd (j := 2) hs rfl (by omega) hL rfl ?_
  iterate 4 (refine tr_mv rfl (fun _ => rfl) ?_)
  refine tr_rd (j := 3) hs rfl (by omega) hL rfl ?_
  iterate 4 (refine tr_mv rfl (fun _ => rfl) ?_)
  refine tr_rd (j := 4) hs rfl (by omega) hL rfl ?_
  refine tr_mv rfl (fun _ => rfl) ?_
  refine tr_stat1 rfl rfl rfl (tr_post (tr_keep (op_25 hR (h32 _) (h32 _) (h32 _) (h32 _))) (fun o1 σ1 hj => ?_))
  obtain ⟨⟨k, rfl, hM⟩, hk1⟩ := hj
  have hs1 : ∀ j, σ1.2 0 j = S j := fun j => (hk1 j).trans (hs j)
  iterate 2 (refine tr_mv rfl (fun _ => rfl) ?_)
  iterate 4 (refine tr_mv rfl (fun _ => rfl) ?_)
  refine tr_rd (j := 1) hs1 rfl (by omega) hL rfl ?_
  iterate 4 (refine tr_mv rfl (fun _ => rfl) ?_)
  refine tr_rd (j := 2) hs1 rfl (by omega) hL rfl ?_
  iterate 4 (refine tr_mv rfl (fun _ => rfl) ?_)
  refine tr_rd (j := 3) hs1 rfl (by omega) hL rfl ?_
  iterate 4 (refine tr_mv rfl (fun _ => rfl) ?_)
  refine tr_rd (j := 4) hs1 rfl (by omega) hL rfl ?_
  refine tr_vc (q := 480) rfl isO_480 rfl rfl rfl (tr_post (tr_keep hM) (fun o2 σ2 hj2 => ?_))
  obtain ⟨⟨b9, rfl, hz, hv, hR2⟩, hk2⟩ := hj2
  have hs2 : ∀ j, σ2.2 0 j = S j := fun j => (hk2 j).trans (hs1 j)
  iterate 2 (refine tr_mv rfl (fun _ => rfl) ?_)
  refine tr_vc (q := 480) rfl isO_480 rfl rfl rfl (s_209 ?_)
  refine tr_mv rfl (fun _ => rfl) ?_
  rw [hz]
  refine tr_cmp2 rfl rfl rfl (fun _ => ?_) (fun e => absurd rfl e)
  refine tr_mv rfl (fun _ => rfl) ?_
  refine tr_if2 rfl rfl (fun _ => ?_) (fun e => ?_)
  · refine tr_mv rfl (fun _ => rfl) ?_
    exact K σ2 _ _ hR2 hs2
  · have hk0 : m32 k = 0 := Decidable.of_not_not e
    iterate 2 (refine tr_mv rfl (fun _ => rfl) ?_)
    refine tr_ll rfl ?_
    rw [hv hk0]
    iterate 3 (refine tr_mv rfl (fun _ => rfl) ?_)
    rw [lc0]
    refine tr_if2 rfl (m32_of (x := 0) ⟨by decide, by decide⟩) (fun _ => ?_) (fun e => absurd rfl e)
    refine tr_mv rfl (fun _ => rfl) ?_
    exact K σ2 _ _ hR2 hs2
set_option maxRecDepth 8000 in
theorem lw_26 (hR : StR σ) (hs : ∀ j, σ.2 0 j = S j) (h32 : ∀ j, in32 (S j)) (hi : i + 5 < Ls) (hL : Ls ≤ 3072) (K : lwK Ls N i S post) : Tr Ls (N + 1) 364 1983 [some (mP (some 0)), some (mP (some 2)), some (mP (some 480)), some (mP (some 533)), some (mI (i : Int)), v5, v6] [] σ post := by
  refine tr_mv rfl (fun _ => rfl) ?_
  iterate 4 (refine tr_mv rfl (fun _ => rfl) ?_)
  refine tr_rd (j := 1) hs rfl (by omega) hL rfl ?_
  iterate 4 (refine tr_mv rfl (fun _ => rfl) ?_)
  refine tr_rd (j := 2) hs rfl (by omega) hL rfl ?_
  iterate 4 (refine tr_mv rfl (fun _ => rfl) ?_)
  refine tr_rd (j := 3) hs rfl (by omega) hL rfl ?_
  iterate 4 (refine tr_mv rfl (fun _ => rfl) ?_)
  refine tr_rd (j := 4) hs rfl (by omega) hL rfl ?_
  refine tr_mv rfl (fun _ => rfl) ?_
  refine tr_stat1 rfl rfl rfl (tr_post (tr_keep (op_26 hR (h32 _) (h32 _) (h32 _) (h32 _))) (fun o1 σ1 hj => ?_))
  obtain ⟨⟨k, rfl, hM⟩, hk1⟩ := hj
  have hs1 : ∀ j, σ1.2 0 j = S j := fun j => (hk1 j).trans (hs j)
  iterate 2 (refine tr_mv rfl (fun _ => rfl) ?_)
  iterate 4 (refine tr_mv rfl (fun _ => rfl) ?_)
  refine tr_rd (j := 1) hs1 rfl (by omega) hL rfl ?_
  iterate 4 (refine tr_mv rfl (fun _ => rfl) ?_)
  refine tr_rd (j := 2) hs1 rfl (by omega) hL rfl ?_
  iterate 4 (refine tr_mv rfl (fun _ => rfl) ?_)
  refine tr_rd (j := 3) hs1 rfl (by omega) hL rfl ?_
  iterate 4 (refine tr_mv rfl (fun _ => rfl) ?_)
  refine tr_rd (j := 4) hs1 rfl (by omega) hL rfl ?_
  refine tr_vc (q := 480) rfl isO_480 rfl rfl rfl (tr_post (tr_keep hM) (fun o2 σ2 hj2 => ?_))
  obtain ⟨⟨b9, rfl, hz, hv, hR2⟩, hk2⟩ := hj2
  have hs2 : ∀ j, σ2.2 0 j = S j := fun j => (hk2 j).trans (hs1 j)
  iterate 2 (refine tr_mv rfl (fun _ => rfl) ?_)
  refine tr_vc (q := 480) rfl isO_480 rfl rfl rfl (s_209 ?_)
  refine tr_mv rfl (fun _ => rfl) ?_
  rw [hz]
  refine tr_cmp2 rfl rfl rfl (fun _ => ?_) (fun e => absurd rfl e)
  refine tr_mv rfl (fun _ => rfl) ?_
  refine tr_if2 rfl rfl (fun _ => ?_) (fun e => ?_)
  · refine tr_mv rfl (fun _ => rfl) ?_
    exact K σ2 _ _ hR2 hs2
  · have hk0 : m32 k = 0 := Decidable.of_not_not e
    iterate 2 (refine tr_mv rfl (fun _ => rfl) ?_)
    refine tr_ll rfl ?_
    rw [hv hk0]
    iterate 3 (refine tr_mv rfl (fun _ => rfl) ?_)
    rw [lc0]
    refine tr_if2 rfl (m32_of (x := 0) ⟨by decide, by decide⟩) (fun _ => ?_) (fun e => absurd rfl e)
    refine tr_mv rfl (fun _ => rfl) ?_
    exact K σ2 _ _ hR2 hs2
set_option maxRecDepth 8000 in
theorem lw_27 (hR : StR σ) (hs : ∀ j, σ.2 0 j = S j) (h32 : ∀ j, in32 (S j)) (hi : i + 5 < Ls) (hL : Ls ≤ 3072) (K : lwK Ls N i S post) : Tr Ls (N + 1) 364 2075 [some (mP (some 0)), some (mP (some 2)), some (mP (some 480)), some (mP (some 533)), some (mI (i : Int)), v5, v6] [] σ post := by
  refine tr_mv rfl (fun _ => rfl) ?_
  iterate 4 (refine tr_mv rfl (fun _ => rfl) ?_)
  refine tr_rd (j := 1) hs rfl (by omega) hL rfl ?_
  iterate 4 (refine tr_mv rfl (fun _ => rfl) ?_)
  refine tr_rd (j := 2) hs rfl (by omega) hL rfl ?_
  iterate 4 (refine tr_mv rfl (fun _ => rfl) ?_)
  refine tr_rd (j := 3) hs rfl (by omega) hL rfl ?_
  iterate 4 (refine tr_mv rfl (fun _ => rfl) ?_)
  refine tr_rd (j := 4) hs rfl (by omega) hL rfl ?_
  iterate 4 (refine tr_mv rfl (fun _ => rfl) ?_)
  refine tr_rd (j := 5) hs rfl (by omega) hL rfl ?_
  refine tr_mv rfl (fun _ => rfl) ?_
  refine tr_stat1 rfl rfl rfl (tr_post (tr_keep (op_27 hR (h32 _) (h32 _) (h32 _) (h32 _) (h32 _))) (fun o1 σ1 hj => ?_))
  obtain ⟨⟨k, rfl, hM⟩, hk1⟩ := hj
  have hs1 : ∀ j, σ1.2 0 j = S j := fun j => (hk1 j).trans (hs j)
  iterate 2 (refine tr_mv rfl (fun _ => rfl) ?_)
  iterate 4 (refine tr_mv rfl (fun _ => rfl) ?_)
  refine tr_rd (j := 1) hs1 rfl (by omega) hL rfl ?_
  iterate 4 (refine tr_mv rfl (fun _ => rfl) ?_)
  refine tr_rd (j := 2) hs1 rfl (by omega) hL rfl ?_
  iterate 4 (refine tr_mv rfl (fun _ => rfl) ?_)
  refine tr_rd (j := 3) hs1 rfl (by omega) hL rfl ?_
  iterate 4 (refine tr_mv rfl (fun _ => rfl) ?_)
  refine tr_rd (j := 4) hs1 rfl (by omega) hL rfl ?_
  iterate 4 (refine tr_mv rfl (fun _ => rfl) ?_)
  refine tr_rd (j := 5) hs1 rfl (by omega) hL rfl ?_
  refine tr_vc (q := 480) rfl isO_480 rfl rfl rfl (tr_post (tr_keep hM) (fun o2 σ2 hj2 => ?_))
  obtain ⟨⟨b9, rfl, hz, hv, hR2⟩, hk2⟩ := hj2
  have hs2 : ∀ j, σ2.2 0 j = S j := fun j => (hk2 j).trans (hs1 j)
  iterate 2 (refine tr_mv rfl (fun _ => rfl) ?_)
  refine tr_vc (q := 480) rfl isO_480 rfl rfl rfl (s_209 ?_)
  refine tr_mv rfl (fun _ => rfl) ?_
  rw [hz]
  refine tr_cmp2 rfl rfl rfl (fun _ => ?_) (fun e => absurd rfl e)
  refine tr_mv rfl (fun _ => rfl) ?_
  refine tr_if2 rfl rfl (fun _ => ?_) (fun e => ?_)
  · refine tr_mv rfl (fun _ => rfl) ?_
    exact K σ2 _ _ hR2 hs2
  · have hk0 : m32 k = 0 := Decidable.of_not_not e
    iterate 2 (refine tr_mv rfl (fun _ => rfl) ?_)
    refine tr_ll rfl ?_
    rw [hv hk0]
    iterate 3 (refine tr_mv rfl (fun _ => rfl) ?_)
    rw [lc0]
    refine tr_if2 rfl (m32_of (x := 0) ⟨by decide, by decide⟩) (fun _ => ?_) (fun e => absurd rfl e)
    refine tr_mv rfl (fun _ => rfl) ?_
    exact K σ2 _ _ hR2 hs2
set_option maxRecDepth 8000 in
theorem lw_28 (hR : StR σ) (hs : ∀ j, σ.2 0 j = S j) (h32 : ∀ j, in32 (S j)) (hi : i + 5 < Ls) (hL : Ls ≤ 3072) (K : lwK Ls N i S post) : Tr Ls (N + 1) 364 2179 [some (mP (some 0)), some (mP (some 2)), some (mP (some 480)), some (mP (some 533)), some (mI (i : Int)), v5, v6] [] σ post := by
  refine tr_mv rfl (fun _ => rfl) ?_
  refine tr_vc1 (q := 2) rfl ⟨by decide, by decide +kernel⟩ rfl rfl rfl (tr_post (tr_keep (op_28 hR)) (fun o1 σ1 hj => ?_))
  obtain ⟨⟨v, rfl, hM⟩, hk1⟩ := hj
  refine tr_mv rfl (fun _ => rfl) ?_
  refine tr_vc (q := 480) rfl isO_480 rfl rfl rfl (tr_post (tr_keep hM) (fun o2 σ2 hj2 => ?_))
  obtain ⟨⟨rfl, hR2⟩, hk2⟩ := hj2
  refine tr_cmp2 rfl rfl rfl (fun _ => ?_) (fun e => absurd rfl e)
  exact K σ2 _ _ hR2 (fun j => (hk2 j).trans ((hk1 j).trans (hs j)))
set_option maxRecDepth 8000 in
theorem lw_29 (hR : StR σ) (hs : ∀ j, σ.2 0 j = S j) (h32 : ∀ j, in32 (S j)) (hi : i + 5 < Ls) (hL : Ls ≤ 3072) (K : lwK Ls N i S post) : Tr Ls (N + 1) 364 2192 [some (mP (some 0)), some (mP (some 2)), some (mP (some 480)), some (mP (some 533)), some (mI (i : Int)), v5, v6] [] σ post := by
  refine tr_mv rfl (fun _ => rfl) ?_
  iterate 4 (refine tr_mv rfl (fun _ => rfl) ?_)
  refine tr_rd (j := 1) hs rfl (by omega) hL rfl ?_
  iterate 4 (refine tr_mv rfl (fun _ => rfl) ?_)
  refine tr_rd (j := 2) hs rfl (by omega) hL rfl ?_
  refine tr_mv rfl (fun _ => rfl) ?_
  refine tr_stat1 rfl rfl rfl (tr_post (tr_keep (op_29 hR (h32 _) (h32 _))) (fun o1 σ1 hj => ?_))
  obtain ⟨⟨k, rfl, hM⟩, hk1⟩ := hj
  have hs1 : ∀ j, σ1.2 0 j = S j := fun j => (hk1 j).trans (hs j)
  iterate 2 (refine tr_mv rfl (fun _ => rfl) ?_)
  iterate 4 (refine tr_mv rfl (fun _ => rfl) ?_)
  refine tr_rd (j := 1) hs1 rfl (by omega) hL rfl ?_
  iterate 4 (refine tr_mv rfl (fun _ => rfl) ?_)
  refine tr_rd (j := 2) hs1 rfl (by omega) hL rfl ?_
  refine tr_vc (q := 480) rfl isO_480 rfl rfl rfl (tr_post (tr_keep hM) (fun o2 σ2 hj2 => ?_))
  obtain ⟨⟨b9, rfl, hz, hv, hR2⟩, hk2⟩ := hj2
  have hs2 : ∀ j, σ2.2 0 j = S j := fun j => (hk2 j).trans (hs1 j)
  iterate 2 (refine tr_mv rfl (fun _ => rfl) ?_)
  refine tr_vc (q := 480) rfl isO_480 rfl rfl rfl (s_209 ?_)
  refine tr_mv rfl (fun _ => rfl) ?_
  rw [hz]
  refine tr_cmp2 rfl rfl rfl (fun _ => ?_) (fun e => absurd rfl e)
  refine tr_mv rfl (fun _ => rfl) ?_
  refine tr_if2 rfl rfl (fun _ => ?_) (fun e => ?_)
  · refine tr_mv rfl (fun _ => rfl) ?_
    exact K σ2 _ _ hR2 hs2
  · have hk0 : m32 k = 0 := Decidable.of_not_not e
    iterate 2 (refine tr_mv rfl (fun _ => rfl) ?_)
    refine tr_ll rfl ?_
    rw [hv hk0]
    iterate 3 (refine tr_mv rfl (fun _ => rfl) ?_)
    rw [lc0]
    refine tr_if2 rfl (m32_of (x := 0) ⟨by decide, by decide⟩) (fun _ => ?_) (fun e => absurd rfl e)
    refine tr_mv rfl (fun _ => rfl) ?_
    exact K σ2 _ _ hR2 hs2
set_option maxRecDepth 8000 in
theorem lw_30 (hR : StR σ) (hs : ∀ j, σ.2 0 j = S j) (h32 : ∀ j, in32 (S j)) (hi : i + 5 < Ls) (hL : Ls ≤ 3072) (K : lwK Ls N i S post) : Tr Ls (N + 1) 364 2260 [some (mP (some 0)), some (mP (some 2)), some (mP (some 480)), some (mP (some 533)), some (mI (i : Int)), v5, v6] [] σ post := by
  refine tr_mv rfl (fun _ => rfl) ?_
  iterate 4 (refine tr_mv rfl (fun _ => rfl) ?_)
  refine tr_rd (j := 1) hs rfl (by omega) hL rfl ?_
  iterate 4 (refine tr_mv rfl (fun _ => rfl) ?_)
  refine tr_rd (j := 2) hs rfl (by omega) hL rfl ?_
  refine tr_mv rfl (fun _ => rfl) ?_
  refine tr_stat1 rfl rfl rfl (tr_post (tr_keep (op_30 hR (h32 _) (h32 _))) (fun o1 σ1 hj => ?_))
  obtain ⟨⟨k, rfl, hM⟩, hk1⟩ := hj
  have hs1 : ∀ j, σ1.2 0 j = S j := fun j => (hk1 j).trans (hs j)
  iterate 2 (refine tr_mv rfl (fun _ => rfl) ?_)
  iterate 4 (refine tr_mv rfl (fun _ => rfl) ?_)
  refine tr_rd (j := 1) hs1 rfl (by omega) hL rfl ?_
  iterate 4 (refine tr_mv rfl (fun _ => rfl) ?_)
  refine tr_rd (j := 2) hs1 rfl (by omega) hL rfl ?_
  refine tr_vc (q := 480) rfl isO_480 rfl rfl rfl (tr_post (tr_keep hM) (fun o2 σ2 hj2 => ?_))
  obtain ⟨⟨b9, rfl, hz, hv, hR2⟩, hk2⟩ := hj2
  have hs2 : ∀ j, σ2.2 0 j = S j := fun j => (hk2 j).trans (hs1 j)
  iterate 2 (refine tr_mv rfl (fun _ => rfl) ?_)
  refine tr_vc (q := 480) rfl isO_480 rfl rfl rfl (s_209 ?_)
  refine tr_mv rfl (fun _ => rfl) ?_
  rw [hz]
  refine tr_cmp2 rfl rfl rfl (fun _ => ?_) (fun e => absurd rfl e)
  refine tr_mv rfl (fun _ => rfl) ?_
  refine tr_if2 rfl rfl (fun _ => ?_) (fun e => ?_)
  · refine tr_mv rfl (fun _ => rfl) ?_
    exact K σ2 _ _ hR2 hs2
  · have hk0 : m32 k = 0 := Decidable.of_not_not e
    iterate 2 (refine tr_mv rfl (fun _ => rfl) ?_)
    refine tr_ll rfl ?_
    rw [hv hk0]
    iterate 3 (refine tr_mv rfl (fun _ => rfl) ?_)
    rw [lc0]
    refine tr_if2 rfl (m32_of (x := 0) ⟨by decide, by decide⟩) (fun _ => ?_) (fun e => absurd rfl e)
    refine tr_mv rfl (fun _ => rfl) ?_
    exact K σ2 _ _ hR2 hs2
set_option maxRecDepth 8000 in
theorem lw_31 (hR : StR σ) (hs : ∀ j, σ.2 0 j = S j) (h32 : ∀ j, in32 (S j)) (hi : i + 5 < Ls) (hL : Ls ≤ 3072) (K : lwK Ls N i S post) : Tr Ls (N + 1) 364 2328 [some (mP (some 0)), some (mP (some 2)), some (mP (some 480)), some (mP (some 533)), some (mI (i : Int)), v5, v6] [] σ post := by
  refine tr_mv rfl (fun _ => rfl) ?_
  iterate 4 (refine tr_mv rfl (fun _ => rfl) ?_)
  refine tr_rd (j := 1) hs rfl (by omega) hL rfl ?_
  iterate 4 (refine tr_mv rfl (fun _ => rfl) ?_)
  refine tr_rd (j := 2) hs rfl (by omega) hL rfl ?_
  refine tr_mv rfl (fun _ => rfl) ?_
  refine tr_stat1 rfl rfl rfl (tr_post (tr_keep (op_31 hR (h32 _) (h32 _))) (fun o1 σ1 hj => ?_))
  obtain ⟨⟨k, rfl, hM⟩, hk1⟩ := hj
  have hs1 : ∀ j, σ1.2 0 j = S j := fun j => (hk1 j).trans (hs j)
  iterate 2 (refine tr_mv rfl (fun _ => rfl) ?_)
  iterate 4 (refine tr_mv rfl (fun _ => rfl) ?_)
  refine tr_rd (j := 1) hs1 rfl (by omega) hL rfl ?_
  iterate 4 (refine tr_mv rfl (fun _ => rfl) ?_)
  refine tr_rd (j := 2) hs1 rfl (by omega) hL rfl ?_
  refine tr_vc (q := 480) rfl isO_480 rfl rfl rfl (tr_post (tr_keep hM) (fun o2 σ2 hj2 => ?_))
  obtain ⟨⟨b9, rfl, hz, hv, hR2⟩, hk2⟩ := hj2
  have hs2 : ∀ j, σ2.2 0 j = S j := fun j => (hk2 j).trans (hs1 j)
  iterate 2 (refine tr_mv rfl (fun _ => rfl) ?_)
  refine tr_vc (q := 480) rfl isO_480 rfl rfl rfl (s_209 ?_)
  refine tr_mv rfl (fun _ => rfl) ?_
  rw [hz]
  refine tr_cmp2 rfl rfl rfl (fun _ => ?_) (fun e => absurd rfl e)
  refine tr_mv rfl (fun _ => rfl) ?_
  refine tr_if2 rfl rfl (fun _ => ?_) (fun e => ?_)
  · refine tr_mv rfl (fun _ => rfl) ?_
    exact K σ2 _ _ hR2 hs2
  · have hk0 : m32 k = 0 := Decidable.of_not_not e
    iterate 2 (refine tr_mv rfl (fun _ => rfl) ?_)
    refine tr_ll rfl ?_
    rw [hv hk0]
    iterate 3 (refine tr_mv rfl (fun _ => rfl) ?_)
    rw [lc0]
    refine tr_if2 rfl (m32_of (x := 0) ⟨by decide, by decide⟩) (fun _ => ?_) (fun e => absurd rfl e)
    refine tr_mv rfl (fun _ => rfl) ?_
    exact K σ2 _ _ hR2 hs2
set_option maxRecDepth 8000 in
theorem lw_32 (hR : StR σ) (hs : ∀ j, σ.2 0 j = S j) (h32 : ∀ j, in32 (S j)) (hi : i + 5 < Ls) (hL : Ls ≤ 3072) (K : lwK Ls N i S post) : Tr Ls (N + 1) 364 2396 [some (mP (some 0)), some (mP (some 2)), some (mP (some 480)), some (mP (some 533)), some (mI (i : Int)), v5, v6] [] σ post := by
  refine tr_mv rfl (fun _ => rfl) ?_
  iterate 4 (refine tr_mv rfl (fun _ => rfl) ?_)
  refine tr_rd (j := 1) hs rfl (by omega) hL rfl ?_
  refine tr_mv rfl (fun _ => rfl) ?_
  refine tr_stat1 rfl rfl rfl (tr_post (tr_keep (op_32 hR (h32 _))) (fun o1 σ1 hj => ?_))
  obtain ⟨⟨k, rfl, hM⟩, hk1⟩ := hj
  have hs1 : ∀ j, σ1.2 0 j = S j := fun j => (hk1 j).trans (hs j)
  iterate 2 (refine tr_mv rfl (fun _ => rfl) ?_)
  iterate 4 (refine tr_mv rfl (fun _ => rfl) ?_)
  refine tr_rd (j := 1) hs1 rfl (by omega) hL rfl ?_
  refine tr_vc (q := 480) rfl isO_480 rfl rfl rfl (tr_post (tr_keep hM) (fun o2 σ2 hj2 => ?_))
  obtain ⟨⟨b9, rfl, hz, hv, hR2⟩, hk2⟩ := hj2
  have hs2 : ∀ j, σ2.2 0 j = S j := fun j => (hk2 j).trans (hs1 j)
  iterate 2 (refine tr_mv rfl (fun _ => rfl) ?_)
  refine tr_vc (q := 480) rfl isO_480 rfl rfl rfl (s_209 ?_)
  refine tr_mv rfl (fun _ => rfl) ?_
  rw [hz]
  refine tr_cmp2 rfl rfl rfl (fun _ => ?_) (fun e => absurd rfl e)
  refine tr_mv rfl (fun _ => rfl) ?_
  refine tr_if2 rfl rfl (fun _ => ?_) (fun e => ?_)
  · refine tr_mv rfl (fun _ => rfl) ?_
    exact K σ2 _ _ hR2 hs2
  · have hk0 : m32 k = 0 := Decidable.of_not_not e
    iterate 2 (refine tr_mv rfl (fun _ => rfl) ?_)
    refine tr_ll rfl ?_
    rw [hv hk0]
    iterate 3 (refine tr_mv rfl (fun _ => rfl) ?_)
    rw [lc0]
    refine tr_if2 rfl (m32_of (x := 0) ⟨by decide, by decide⟩) (fun _ => ?_) (fun e => absurd rfl e)
    refine tr_mv rfl (fun _ => rfl) ?_
    exact K σ2 _ _ hR2 hs2
set_option maxRecDepth 8000 in
theorem lw_33 (hR : StR σ) (hs : ∀ j, σ.2 0 j = S j) (h32 : ∀ j, in32 (S j)) (hi : i + 5 < Ls) (hL : Ls ≤ 3072) (K : lwK Ls N i S post) : Tr Ls (N + 1) 364 2452 [some (mP (some 0)), some (mP (some 2)), some (mP (some 480)), some (mP (some 533)), some (mI (i : Int)), v5, v6] [] σ post := by
  refine tr_mv rfl (fun _ => rfl) ?_
  refine tr_vc1 (q := 2) rfl ⟨by decide, by decide +kernel⟩ rfl rfl rfl (tr_post (tr_keep (op_33 hR)) (fun o1 σ1 hj => ?_))
  obtain ⟨⟨v, rfl, hM⟩, hk1⟩ := hj
  refine tr_mv rfl (fun _ => rfl) ?_
  refine tr_vc (q := 480) rfl isO_480 rfl rfl rfl (tr_post (tr_keep hM) (fun o2 σ2 hj2 => ?_))
  obtain ⟨⟨rfl, hR2⟩, hk2⟩ := hj2
  refine tr_cmp2 rfl rfl rfl (fun _ => ?_) (fun e => absurd rfl e)
  exact K σ2 _ _ hR2 (fun j => (hk2 j).trans ((hk1 j).trans (hs j)))
set_option maxRecDepth 8000 in
theorem lw_34 (hR : StR σ) (hs : ∀ j, σ.2 0 j = S j) (h32 : ∀ j, in32 (S j)) (hi : i + 5 < Ls) (hL : Ls ≤ 3072) (K : lwK Ls N i S post) : Tr Ls (N + 1) 364 2465 [some (mP (some 0)), some (mP (some 2)), some (mP (some 480)), some (mP (some 533)), some (mI (i : Int)), v5, v6] [] σ post := by
  refine tr_mv rfl (fun _ => rfl) ?_
  iterate 4 (refine tr_mv rfl (fun _ => rfl) ?_)
  refine tr_rd (j := 1) hs rfl (by omega) hL rfl ?_
  refine tr_mv rfl (fun _ => rfl) ?_
  refine tr_stat1 rfl rfl rfl (tr_post (tr_keep (op_34 hR (h32 _))) (fun o1 σ1 hj => ?_))
  obtain ⟨⟨k, rfl, hM⟩, hk1⟩ := hj
  have hs1 : ∀ j, σ1.2 0 j = S j := fun j => (hk1 j).trans (hs j)
  iterate 2 (refine tr_mv rfl (fun _ => rfl) ?_)
  iterate 4 (refine tr_mv rfl (fun _ => rfl) ?_)
  refine tr_rd (j := 1) hs1 rfl (by omega) hL rfl ?_
  refine tr_vc (q := 480) rfl isO_480 rfl rfl rfl (tr_post (tr_keep hM) (fun o2 σ2 hj2 => ?_))
  obtain ⟨⟨b9, rfl, hz, hv, hR2⟩, hk2⟩ := hj2
  have hs2 : ∀ j, σ2.2 0 j = S j := fun j => (hk2 j).trans (hs1 j)
  iterate 2 (refine tr_mv rfl (fun _ => rfl) ?_)
  refine tr_vc (q := 480) rfl isO_480 rfl rfl rfl (s_209 ?_)
  refine tr_mv rfl (fun _ => rfl) ?_
  rw [hz]
  refine tr_cmp2 rfl rfl rfl (fun _ => ?_) (fun e => absurd rfl e)
  refine tr_mv rfl (fun _ => rfl) ?_
  refine tr_if2 rfl rfl (fun _ => ?_) (fun e => ?_)
  · refine tr_mv rfl (fun _ => rfl) ?_
    exact K σ2 _ _ hR2 hs2
  · have hk0 : m32 k = 0 := Decidable.of_not_not e
    iterate 2 (refine tr_mv rfl (fun _ => rfl) ?_)
    refine tr_ll rfl ?_
    rw [hv hk0]
    iterate 3 (refine tr_mv rfl (fun _ => rfl) ?_)
    rw [lc0]
    refine tr_if2 rfl (m32_of (x := 0) ⟨by decide, by decide⟩) (fun _ => ?_) (fun e => absurd rfl e)
    refine tr_mv rfl (fun _ => rfl) ?_
    exact K σ2 _ _ hR2 hs2
set_option maxRecDepth 8000 in
theorem lw_35 (hR : StR σ) (hs : ∀ j, σ.2 0 j = S j) (h32 : ∀ j, in32 (S j)) (hi : i + 5 < Ls) (hL : Ls ≤ 3072) (K : lwK Ls N i S post) : Tr Ls (N + 1) 364 2521 [some (mP (some 0)), some (mP (some 2)), some (mP (some 480)), some (mP (some 533)), some (mI (i : Int)), v5, v6] [] σ post := by
  refine tr_mv rfl (fun _ => rfl) ?_
  iterate 4 (refine tr_mv rfl (fun _ => rfl) ?_)
  refine tr_rd (j := 1) hs rfl (by omega) hL rfl ?_
  iterate 4 (refine tr_mv rfl (fun _ => rfl) ?_)
  refine tr_rd (j := 2) hs rfl (by omega) hL rfl ?_
  refine tr_mv rfl (fun _ => rfl) ?_
  refine tr_stat1 rfl rfl rfl (tr_post (tr_keep (op_35 hR (h32 _) (h32 _))) (fun o1 σ1 hj => ?_))
  obtain ⟨⟨k, rfl, hM⟩, hk1⟩ := hj
  have hs1 : ∀ j, σ1.2 0 j = S j := fun j => (hk1 j).trans (hs j)
  iterate 2 (refine tr_mv rfl (fun _ => rfl) ?_)
  iterate 4 (refine tr_mv rfl (fun _ => rfl) ?_)
  refine tr_rd (j := 1) hs1 rfl (by omega) hL rfl ?_
  iterate 4 (refine tr_mv rfl (fun _ => rfl) ?_)
  refine tr_rd (j := 2) hs1 rfl (by omega) hL rfl ?_
  refine tr_vc (q := 480) rfl isO_480 rfl rfl rfl (tr_post (tr_keep hM) (fun o2 σ2 hj2 => ?_))
  obtain ⟨⟨b9, rfl, hz, hv, hR2⟩, hk2⟩ := hj2
  have hs2 : ∀ j, σ2.2 0 j = S j := fun j => (hk2 j).trans (hs1 j)
  iterate 2 (refine tr_mv rfl (fun _ => rfl) ?_)
  refine tr_vc (q := 480) rfl isO_480 rfl rfl rfl (s_209 ?_)
  refine tr_mv rfl (fun _ => rfl) ?_
  rw [hz]
  refine tr_cmp2 rfl rfl rfl (fun _ => ?_) (fun e => absurd rfl e)
  refine tr_mv rfl (fun _ => rfl) ?_
  refine tr_if2 rfl rfl (fun _ => ?_) (fun e => ?_)
  · refine tr_mv rfl (fun _ => rfl) ?_
    exact K σ2 _ _ hR2 hs2
  · have hk0 : m32 k = 0 := Decidable.of_not_not e
    iterate 2 (refine tr_mv rfl (fun _ => rfl) ?_)
    refine tr_ll rfl ?_
    rw [hv hk0]
    iterate 3 (refine tr_mv rfl (fun _ => rfl) ?_)
    rw [lc0]
    refine tr_if2 rfl (m32_of (x := 0) ⟨by decide, by decide⟩) (fun _ => ?_) (fun e => absurd rfl e)
    refine tr_mv rfl (fun _ => rfl) ?_
    exact K σ2 _ _ hR2 hs2
set_option maxRecDepth 8000 in
theorem lw_36 (hR : StR σ) (hs : ∀ j, σ.2 0 j = S j) (h32 : ∀ j, in32 (S j)) (hi : i + 5 < Ls) (hL : Ls ≤ 3072) (K : lwK Ls N i S post) : Tr Ls (N + 1) 364 2589 [some (mP (some 0)), some (mP (some 2)), some (mP (some 480)), some (mP (some 533)), some (mI (i : Int)), v5, v6] [] σ post := by
  refine tr_mv rfl (fun _ => rfl) ?_
  iterate 4 (refine tr_mv rfl (fun _ => rfl) ?_)
  refine tr_rd (j := 1) hs rfl (by omega) hL rfl ?_
  iterate 4 (refine tr_mv rfl (fun _ => rfl) ?_)
  refine tr_rd (j := 2) hs rfl (by omega) hL rfl ?_
  suffices key : Tr Ls (N + 1) 364 2610 [some (mP (some 0)), some (mP (some 2)), some (mP (some 480)), some (mP (some 533)), some (mI (i : Int)), v5, v6] [mI (bv (S (i + 2))), mI (S (i + 1)), mP (some 2)] σ post by
    refine tr_if2 rfl (m32_of (h32 _)) (fun e => ?_) (fun e => ?_)
    · refine tr_mv rfl (fun _ => rfl) ?_
      rw [show bv (S (i + 2)) = 0 from if_pos e] at key
      exact key
    · iterate 2 (refine tr_mv rfl (fun _ => rfl) ?_)
      rw [show bv (S (i + 2)) = 1 from if_neg e] at key
      exact key
  iterate 4 (refine tr_mv rfl (fun _ => rfl) ?_)
  refine tr_rd (j := 3) hs rfl (by omega) hL rfl ?_
  refine tr_mv rfl (fun _ => rfl) ?_
  refine tr_stat1 rfl rfl rfl (tr_post (tr_keep (op_36 hR (h32 _) (bv_in _) (h32 _))) (fun o1 σ1 hj => ?_))
  obtain ⟨⟨k, rfl, hM⟩, hk1⟩ := hj
  have hs1 : ∀ j, σ1.2 0 j = S j := fun j => (hk1 j).trans (hs j)
  iterate 2 (refine tr_mv rfl (fun _ => rfl) ?_)
  iterate 4 (refine tr_mv rfl (fun _ => rfl) ?_)
  refine tr_rd (j := 1) hs1 rfl (by omega) hL rfl ?_
  iterate 4 (refine tr_mv rfl (fun _ => rfl) ?_)
  refine tr_rd (j := 2) hs1 rfl (by omega) hL rfl ?_
  suffices key : Tr Ls N 364 2643 [some (mP (some 0)), some (mP (some 2)), some (mP (some 480)), some (mP (some 533)), some (mI (i : Int)), some (mI k), v6] [mI (bv (S (i + 2))), mI (S (i + 1)), mP (some 480)] σ1 post by
    refine tr_if2 rfl (m32_of (h32 _)) (fun e => ?_) (fun e => ?_)
    · refine tr_mv rfl (fun _ => rfl) ?_
      rw [show bv (S (i + 2)) = 0 from if_pos e] at key
      exact key
    · iterate 2 (refine tr_mv rfl (fun _ => rfl) ?_)
      rw [show bv (S (i + 2)) = 1 from if_neg e] at key
      exact key
  iterate 4 (refine tr_mv rfl (fun _ => rfl) ?_)
  refine tr_rd (j := 3) hs1 rfl (by omega) hL rfl ?_
  refine tr_vc (q := 480) rfl isO_480 rfl rfl rfl (tr_post (tr_keep hM) (fun o2 σ2 hj2 => ?_))
  obtain ⟨⟨b9, rfl, hz, hv, hR2⟩, hk2⟩ := hj2
  have hs2 : ∀ j, σ2.2 0 j = S j := fun j => (hk2 j).trans (hs1 j)
  iterate 2 (refine tr_mv rfl (fun _ => rfl) ?_)
  refine tr_vc (q := 480) rfl isO_480 rfl rfl rfl (s_209 ?_)
  refine tr_mv rfl (fun _ => rfl) ?_
  rw [hz]
  refine tr_cmp2 rfl rfl rfl (fun _ => ?_) (fun e => absurd rfl e)
  refine tr_mv rfl (fun _ => rfl) ?_
  refine tr_if2 rfl rfl (fun _ => ?_) (fun e => ?_)
  · refine tr_mv rfl (fun _ => rfl) ?_
    exact K σ2 _ _ hR2 hs2
  · have hk0 : m32 k = 0 := Decidable.of_not_not e
    iterate 2 (refine tr_mv rfl (fun _ => rfl) ?_)
    refine tr_ll rfl ?_
    rw [hv hk0]
    iterate 3 (refine tr_mv rfl (fun _ => rfl) ?_)
    rw [lc0]
    refine tr_if2 rfl (m32_of (x := 0) ⟨by decide, by decide⟩) (fun _ => ?_) (fun e => absurd rfl e)
    refine tr_mv rfl (fun _ => rfl) ?_
    exact K σ2 _ _ hR2 hs2
end LAW
