/-! Families of places; small methods of both sides. -/
theorem F_all : ∀ i, i < 30 → (mPtr 10 i = some (153 + 4 * i) ∧ mPtr 141 i = some (155 + 4 * i) ∧ mPtr 42 i = some (43 + 2 * i) ∧ mShp[153 + 4 * i]? = some (24, 2) ∧ mShp[153 + 4 * i + 1]? = some (0, 30) ∧ mShp[155 + 4 * i]? = some (24, 2) ∧ mShp[155 + 4 * i + 1]? = some (0, 376) ∧ mShp[43 + 2 * i]? = some (24, 2) ∧ mShp[43 + 2 * i + 1]? = some (0, 3)) := by decide +kernel
theorem F_ent : ∀ i, i < 24 → mPtr 35 i = some (360 + 5 * i) := by decide +kernel
theorem F_3 : ∀ i, i < 3 → (mPtr 11 i = some (273 + 29 * i) ∧ mPtr 36 i = some (295 + 29 * i) ∧ mShp[295 + 29 * i]? = some (22, 4) ∧ rowC (295 + 29 * i) = false ∧ mPtr (295 + 29 * i) 0 = some (295 + 29 * i + 1) ∧ mPtr (295 + 29 * i) 1 = some (295 + 29 * i + 3) ∧ mPtr (295 + 29 * i) 2 = some (295 + 29 * i + 5) ∧ mPtr (295 + 29 * i) 3 = none ∧ mShp[295 + 29 * i + 1]? = some (24, 2) ∧ mShp[295 + 29 * i + 2]? = some (0, 24) ∧ mShp[295 + 29 * i + 3]? = some (24, 2) ∧ mShp[295 + 29 * i + 4]? = some (0, 24) ∧ mShp[295 + 29 * i + 5]? = some (24, 2) ∧ mShp[295 + 29 * i + 6]? = some (0, 24)) := by decide +kernel
theorem s10 : mShp[10]? = some (3, 30) ∧ mShp[141]? = some (3, 30) ∧ mShp[42]? = some (3, 30) ∧ mShp[35]? = some (5, 24) ∧ mShp[11]? = some (4, 3) ∧ mShp[36]? = some (6, 3) := by decide +kernel
theorem r_T {i : Nat} (h : i < 30) : isRow (153 + 4 * i) 30 := ⟨by omega, (F_all i h).2.2.2.1, (F_all i h).2.2.2.2.1⟩
theorem r_K {i : Nat} (h : i < 30) : isRow (155 + 4 * i) 376 := ⟨by omega, (F_all i h).2.2.2.2.2.1, (F_all i h).2.2.2.2.2.2.1⟩
theorem r_R {i : Nat} (h : i < 30) : isRow (43 + 2 * i) 3 := ⟨by omega, (F_all i h).2.2.2.2.2.2.2.1, (F_all i h).2.2.2.2.2.2.2.2⟩
theorem t_Tl {i : Nat} (h : i < 3) : isT (273 + 29 * i) := by unfold isT; omega
theorem e_E {i : Nat} (h : i < 24) : isE (360 + 5 * i) := ⟨i, h, rfl⟩
theorem X_O {i : Nat} (h : i < 3) : isO (295 + 29 * i) 6 := ⟨by omega, (F_3 i h).2.2.1⟩
theorem X_c {i : Nat} (h : i < 3) : rowC (295 + 29 * i) = false := (F_3 i h).2.2.2.1
theorem X_p0 {i : Nat} (h : i < 3) : mPtr (295 + 29 * i) 0 = some ((295 + 29 * i) + 1) := (F_3 i h).2.2.2.2.1
theorem X_p1 {i : Nat} (h : i < 3) : mPtr (295 + 29 * i) 1 = some ((295 + 29 * i) + 3) := (F_3 i h).2.2.2.2.2.1
theorem X_p2 {i : Nat} (h : i < 3) : mPtr (295 + 29 * i) 2 = some ((295 + 29 * i) + 5) := (F_3 i h).2.2.2.2.2.2.1
theorem X_n3 {i : Nat} (h : i < 3) : mPtr (295 + 29 * i) 3 = none := (F_3 i h).2.2.2.2.2.2.2.1
theorem X_r0 {i : Nat} (h : i < 3) : isRow ((295 + 29 * i) + 1) 24 := ⟨by omega, (F_3 i h).2.2.2.2.2.2.2.2.1, (F_3 i h).2.2.2.2.2.2.2.2.2.1⟩
theorem X_r1 {i : Nat} (h : i < 3) : isRow ((295 + 29 * i) + 3) 24 := ⟨by omega, (F_3 i h).2.2.2.2.2.2.2.2.2.2.1, (F_3 i h).2.2.2.2.2.2.2.2.2.2.2.1⟩
theorem X_r2 {i : Nat} (h : i < 3) : isRow ((295 + 29 * i) + 5) 24 := ⟨by omega, (F_3 i h).2.2.2.2.2.2.2.2.2.2.2.2.1, (F_3 i h).2.2.2.2.2.2.2.2.2.2.2.2.2⟩
section SMALL
variable {Ls N k pc n n' nn b c t a q kd w d p : Nat} {L L0 : mLs} {st r as : List mV} {h h' : mH} {σ σ' σ'' : Sg} {post : tP} {x y z x' y' i i' s v m u lv : Int} {xs ys : List Int} {e : mE} {C : Nat → Nat → Prop}
theorem tr_aan {nn : Nat} (hi : i = (d : Int)) (hd : d < nn) (hn : nn < 100000) (he : mPg.1 k pc = some (.aaload, n, kd, b, c)) (hq : mShp[q]? = some (kd, nn)) (hq1 : 1 ≤ q) (h2 : mPtr q d = some w) (K : Tr Ls N k (pc + n) L (mP (some w) :: r) σ post) : Tr Ls N k pc L (mI i :: mP (some q) :: r) σ post := by
  have e : m32 i = (d : Int) := by rw [hi]; exact m32_of (by omega)
  refine tr_aa (by rw [e]; omega) he hq hq1 ?_ K
  rw [e, Int.toNat_natCast]
  exact h2
theorem s_169 (hp : p < 30) (K : post (.inl (some (mP (some (153 + 4 * p))))) σ) : Tr Ls N 169 0 [some (mP (some 2)), some (mI (p : Int))] [] σ post := by
  repeat (first | refine tr_gr rfl ⟨by decide, rfl⟩ (by decide) rfl ?_ | refine tr_gi rfl (by decide) ⟨by decide, rfl⟩ (by decide) rfl rfl ?_ | refine tr_gr rfl (by assumption) (by decide) (by assumption) ?_ | refine tr_gi rfl (by decide) (by assumption) (by decide) (by assumption) (by assumption) ?_ | (refine tr_rem ?_ ?_ rfl ?_; omega; omega) | (refine tr_div ?_ ?_ rfl ?_; omega; omega) | refine tr_mv rfl (fun _ => rfl) ?_ | refine tr_ia2 (m32_of (by omega)) (by omega) rfl (fun _ => rfl) rfl (by decide) (by decide) (fun _ => rfl) ?_ | refine tr_size (by assumption) rfl rfl ?_ | refine tr_at2 (by assumption) (m32_of (by omega)) rfl rfl ?_)
  refine tr_if2 rfl (m32_of (by omega)) (fun c1 => absurd c1 (by show ¬ _ < _; omega)) (fun _ => ?_)
  iterate 2 (refine tr_mv rfl (fun _ => rfl) ?_)
  refine tr_cmp2 rfl (m32_of (by omega)) (m32_of (x := 30) ⟨by decide, by decide⟩) (fun c1 => absurd c1 (by show ¬ (30 : Int) ≤ _; omega)) (fun _ => ?_)
  iterate 2 (refine tr_mv rfl (fun _ => rfl) ?_)
  refine tr_aan rfl hp (by decide) rfl s10.1 (by decide) (F_all p hp).1 ?_
  exact tr_ret rfl (fun _ => rfl) K
theorem s_170 (hp : p < 30) (K : post (.inl (some (mP (some (155 + 4 * p))))) σ) : Tr Ls N 170 0 [some (mP (some 2)), some (mI (p : Int))] [] σ post := by
  repeat (first | refine tr_gr rfl ⟨by decide, rfl⟩ (by decide) rfl ?_ | refine tr_gi rfl (by decide) ⟨by decide, rfl⟩ (by decide) rfl rfl ?_ | refine tr_gr rfl (by assumption) (by decide) (by assumption) ?_ | refine tr_gi rfl (by decide) (by assumption) (by decide) (by assumption) (by assumption) ?_ | (refine tr_rem ?_ ?_ rfl ?_; omega; omega) | (refine tr_div ?_ ?_ rfl ?_; omega; omega) | refine tr_mv rfl (fun _ => rfl) ?_ | refine tr_ia2 (m32_of (by omega)) (by omega) rfl (fun _ => rfl) rfl (by decide) (by decide) (fun _ => rfl) ?_ | refine tr_size (by assumption) rfl rfl ?_ | refine tr_at2 (by assumption) (m32_of (by omega)) rfl rfl ?_)
  refine tr_if2 rfl (m32_of (by omega)) (fun c1 => absurd c1 (by show ¬ _ < _; omega)) (fun _ => ?_)
  iterate 2 (refine tr_mv rfl (fun _ => rfl) ?_)
  refine tr_cmp2 rfl (m32_of (by omega)) (m32_of (x := 30) ⟨by decide, by decide⟩) (fun c1 => absurd c1 (by show ¬ (30 : Int) ≤ _; omega)) (fun _ => ?_)
  iterate 2 (refine tr_mv rfl (fun _ => rfl) ?_)
  refine tr_aan rfl hp (by decide) rfl s10.2.1 (by decide) (F_all p hp).2.1 ?_
  exact tr_ret rfl (fun _ => rfl) K
theorem s_31 (hp : p < 30) (K : post (.inl (some (mP (some (43 + 2 * p))))) σ) : Tr Ls N 31 0 [some (mP (some 37)), some (mI (p : Int))] [] σ post := by
  repeat (first | refine tr_gr rfl ⟨by decide, rfl⟩ (by decide) rfl ?_ | refine tr_gi rfl (by decide) ⟨by decide, rfl⟩ (by decide) rfl rfl ?_ | refine tr_gr rfl (by assumption) (by decide) (by assumption) ?_ | refine tr_gi rfl (by decide) (by assumption) (by decide) (by assumption) (by assumption) ?_ | (refine tr_rem ?_ ?_ rfl ?_; omega; omega) | (refine tr_div ?_ ?_ rfl ?_; omega; omega) | refine tr_mv rfl (fun _ => rfl) ?_ | refine tr_ia2 (m32_of (by omega)) (by omega) rfl (fun _ => rfl) rfl (by decide) (by decide) (fun _ => rfl) ?_ | refine tr_size (by assumption) rfl rfl ?_ | refine tr_at2 (by assumption) (m32_of (by omega)) rfl rfl ?_)
  refine tr_if2 rfl (m32_of (by omega)) (fun c1 => absurd c1 (by show ¬ _ < _; omega)) (fun _ => ?_)
  iterate 2 (refine tr_mv rfl (fun _ => rfl) ?_)
  refine tr_cmp2 rfl (m32_of (by omega)) (m32_of (x := 30) ⟨by decide, by decide⟩) (fun c1 => absurd c1 (by show ¬ (30 : Int) ≤ _; omega)) (fun _ => ?_)
  iterate 2 (refine tr_mv rfl (fun _ => rfl) ?_)
  refine tr_aan rfl hp (by decide) rfl s10.2.2.1 (by decide) (F_all p hp).2.2.1 ?_
  exact tr_ret rfl (fun _ => rfl) K
theorem s_171 (hp : p < 24) (K : post (.inl (some (mP (some (360 + 5 * p))))) σ) : Tr Ls N 171 0 [some (mP (some 2)), some (mI (p : Int))] [] σ post := by
  repeat (first | refine tr_gr rfl ⟨by decide, rfl⟩ (by decide) rfl ?_ | refine tr_gi rfl (by decide) ⟨by decide, rfl⟩ (by decide) rfl rfl ?_ | refine tr_gr rfl (by assumption) (by decide) (by assumption) ?_ | refine tr_gi rfl (by decide) (by assumption) (by decide) (by assumption) (by assumption) ?_ | (refine tr_rem ?_ ?_ rfl ?_; omega; omega) | (refine tr_div ?_ ?_ rfl ?_; omega; omega) | refine tr_mv rfl (fun _ => rfl) ?_ | refine tr_ia2 (m32_of (by omega)) (by omega) rfl (fun _ => rfl) rfl (by decide) (by decide) (fun _ => rfl) ?_ | refine tr_size (by assumption) rfl rfl ?_ | refine tr_at2 (by assumption) (m32_of (by omega)) rfl rfl ?_)
  refine tr_if2 rfl (m32_of (by omega)) (fun c1 => absurd c1 (by show ¬ _ < _; omega)) (fun _ => ?_)
  iterate 2 (refine tr_mv rfl (fun _ => rfl) ?_)
  refine tr_cmp2 rfl (m32_of (by omega)) (m32_of (x := 24) ⟨by decide, by decide⟩) (fun c1 => absurd c1 (by show ¬ (24 : Int) ≤ _; omega)) (fun _ => ?_)
  iterate 2 (refine tr_mv rfl (fun _ => rfl) ?_)
  refine tr_aan rfl hp (by decide) rfl s10.2.2.2.1 (by decide) (F_ent p hp) ?_
  exact tr_ret rfl (fun _ => rfl) K
theorem s_172 (hp : p < 3) (K : post (.inl (some (mP (some (273 + 29 * p))))) σ) : Tr Ls N 172 0 [some (mP (some 2)), some (mI (p : Int))] [] σ post := by
  repeat (first | refine tr_gr rfl ⟨by decide, rfl⟩ (by decide) rfl ?_ | refine tr_gi rfl (by decide) ⟨by decide, rfl⟩ (by decide) rfl rfl ?_ | refine tr_gr rfl (by assumption) (by decide) (by assumption) ?_ | refine tr_gi rfl (by decide) (by assumption) (by decide) (by assumption) (by assumption) ?_ | (refine tr_rem ?_ ?_ rfl ?_; omega; omega) | (refine tr_div ?_ ?_ rfl ?_; omega; omega) | refine tr_mv rfl (fun _ => rfl) ?_ | refine tr_ia2 (m32_of (by omega)) (by omega) rfl (fun _ => rfl) rfl (by decide) (by decide) (fun _ => rfl) ?_ | refine tr_size (by assumption) rfl rfl ?_ | refine tr_at2 (by assumption) (m32_of (by omega)) rfl rfl ?_)
  refine tr_stat rfl rfl rfl (s_174 (by omega) ?_)
  rw [b2_pos (by omega)]
  refine tr_if2 rfl (m32_of (x := 1) ⟨by decide, by decide⟩) (fun c9 => absurd c9 (by decide)) (fun _ => ?_)
  iterate 2 (refine tr_mv rfl (fun _ => rfl) ?_)
  refine tr_aan rfl hp (by decide) rfl s10.2.2.2.2.1 (by decide) (F_3 p hp).1 ?_
  exact tr_ret rfl (fun _ => rfl) K
theorem s_173 (hp : p < 3) (K : post (.inl (some (mP (some (295 + 29 * p))))) σ) : Tr Ls N 173 0 [some (mP (some 2)), some (mI (p : Int))] [] σ post := by
  repeat (first | refine tr_gr rfl ⟨by decide, rfl⟩ (by decide) rfl ?_ | refine tr_gi rfl (by decide) ⟨by decide, rfl⟩ (by decide) rfl rfl ?_ | refine tr_gr rfl (by assumption) (by decide) (by assumption) ?_ | refine tr_gi rfl (by decide) (by assumption) (by decide) (by assumption) (by assumption) ?_ | (refine tr_rem ?_ ?_ rfl ?_; omega; omega) | (refine tr_div ?_ ?_ rfl ?_; omega; omega) | refine tr_mv rfl (fun _ => rfl) ?_ | refine tr_ia2 (m32_of (by omega)) (by omega) rfl (fun _ => rfl) rfl (by decide) (by decide) (fun _ => rfl) ?_ | refine tr_size (by assumption) rfl rfl ?_ | refine tr_at2 (by assumption) (m32_of (by omega)) rfl rfl ?_)
  refine tr_stat rfl rfl rfl (s_174 (by omega) ?_)
  rw [b2_pos (by omega)]
  refine tr_if2 rfl (m32_of (x := 1) ⟨by decide, by decide⟩) (fun c9 => absurd c9 (by decide)) (fun _ => ?_)
  iterate 2 (refine tr_mv rfl (fun _ => rfl) ?_)
  refine tr_aan rfl hp (by decide) rfl s10.2.2.2.2.2 (by decide) (F_3 p hp).2.1 ?_
  exact tr_ret rfl (fun _ => rfl) K
theorem s_166 (hx : in32 x) (hc : in32 (σ.2 2 4)) (K : post (.inl (some (mI (b2 (0 ≤ x ∧ x < σ.2 2 4))))) σ) : Tr Ls N 166 0 [some (mP (some 2)), some (mI x)] [] σ post := by
  iterate 1 (refine tr_mv rfl (fun _ => rfl) ?_)
  refine tr_if2 rfl (m32_of (by omega)) (fun c1 => ?_) (fun c1 => ?_)
  · iterate 1 (refine tr_mv rfl (fun _ => rfl) ?_)
    exact tr_rb0 rfl (by omega) K
  · repeat (first | refine tr_gr rfl ⟨by decide, rfl⟩ (by decide) rfl ?_ | refine tr_gi rfl (by decide) ⟨by decide, rfl⟩ (by decide) rfl rfl ?_ | refine tr_gr rfl (by assumption) (by decide) (by assumption) ?_ | refine tr_gi rfl (by decide) (by assumption) (by decide) (by assumption) (by assumption) ?_ | (refine tr_rem ?_ ?_ rfl ?_; omega; omega) | (refine tr_div ?_ ?_ rfl ?_; omega; omega) | refine tr_mv rfl (fun _ => rfl) ?_ | refine tr_ia2 (m32_of (by omega)) (by omega) rfl (fun _ => rfl) rfl (by decide) (by decide) (fun _ => rfl) ?_ | refine tr_size (by assumption) rfl rfl ?_ | refine tr_at2 (by assumption) (m32_of (by omega)) rfl rfl ?_)
    refine tr_cmp2 rfl (m32_of hx) (m32_of hc) (fun c2 => ?_) (fun c2 => ?_)
    · iterate 1 (refine tr_mv rfl (fun _ => rfl) ?_)
      exact tr_rb0 rfl (fun g => absurd c2 (by show ¬ _ ≤ _; omega)) K
    · iterate 2 (refine tr_mv rfl (fun _ => rfl) ?_)
      exact tr_rb1 rfl ⟨by omega, Int.not_le.mp c2⟩ K
theorem s_167 (hx : in32 x) (hc : in32 (σ.2 2 9)) (K : post (.inl (some (mI (b2 (0 ≤ x ∧ x < σ.2 2 9))))) σ) : Tr Ls N 167 0 [some (mP (some 2)), some (mI x)] [] σ post := by
  iterate 1 (refine tr_mv rfl (fun _ => rfl) ?_)
  refine tr_if2 rfl (m32_of (by omega)) (fun c1 => ?_) (fun c1 => ?_)
  · iterate 1 (refine tr_mv rfl (fun _ => rfl) ?_)
    exact tr_rb0 rfl (by omega) K
  · repeat (first | refine tr_gr rfl ⟨by decide, rfl⟩ (by decide) rfl ?_ | refine tr_gi rfl (by decide) ⟨by decide, rfl⟩ (by decide) rfl rfl ?_ | refine tr_gr rfl (by assumption) (by decide) (by assumption) ?_ | refine tr_gi rfl (by decide) (by assumption) (by decide) (by assumption) (by assumption) ?_ | (refine tr_rem ?_ ?_ rfl ?_; omega; omega) | (refine tr_div ?_ ?_ rfl ?_; omega; omega) | refine tr_mv rfl (fun _ => rfl) ?_ | refine tr_ia2 (m32_of (by omega)) (by omega) rfl (fun _ => rfl) rfl (by decide) (by decide) (fun _ => rfl) ?_ | refine tr_size (by assumption) rfl rfl ?_ | refine tr_at2 (by assumption) (m32_of (by omega)) rfl rfl ?_)
    refine tr_cmp2 rfl (m32_of hx) (m32_of hc) (fun c2 => ?_) (fun c2 => ?_)
    · iterate 1 (refine tr_mv rfl (fun _ => rfl) ?_)
      exact tr_rb0 rfl (fun g => absurd c2 (by show ¬ _ ≤ _; omega)) K
    · iterate 2 (refine tr_mv rfl (fun _ => rfl) ?_)
      exact tr_rb1 rfl ⟨by omega, Int.not_le.mp c2⟩ K
theorem s_165 (hx : in32 x) (hb : in32 (bOf σ x)) (K : post (.inl (some (mI (b2 (0 ≤ x ∧ x < 40 ∨ bOf σ x ≠ -1))))) σ) : Tr Ls N 165 0 [some (mP (some 2)), some (mI x)] [] σ post := by
  have h10 : ¬ (0 ≤ x ∧ x < 40) → Tr Ls N 165 10 [some (mP (some 2)), some (mI x)] [] σ post := by
    intro g
    repeat (first | refine tr_gr rfl ⟨by decide, rfl⟩ (by decide) rfl ?_ | refine tr_gi rfl (by decide) ⟨by decide, rfl⟩ (by decide) rfl rfl ?_ | refine tr_gr rfl (by assumption) (by decide) (by assumption) ?_ | refine tr_gi rfl (by decide) (by assumption) (by decide) (by assumption) (by assumption) ?_ | (refine tr_rem ?_ ?_ rfl ?_; omega; omega) | (refine tr_div ?_ ?_ rfl ?_; omega; omega) | refine tr_mv rfl (fun _ => rfl) ?_ | refine tr_ia2 (m32_of (by omega)) (by omega) rfl (fun _ => rfl) rfl (by decide) (by decide) (fun _ => rfl) ?_ | refine tr_size (by assumption) rfl rfl ?_ | refine tr_at2 (by assumption) (m32_of (by omega)) rfl rfl ?_)
    refine tr_vc (q := 3) rfl ⟨by decide, rfl⟩ rfl rfl rfl (s_14 hx hb ?_)
    first | refine tr_ib rfl (fun c1 => ?_) (fun c1 => ?_) | refine tr_ibn rfl (fun c1 => ?_) (fun c1 => ?_)
    · iterate 1 (refine tr_mv rfl (fun _ => rfl) ?_)
      exact tr_rb0 rfl (fun g2 => g2.elim g c1) K
    · iterate 2 (refine tr_mv rfl (fun _ => rfl) ?_)
      exact tr_rb1 rfl (Or.inr c1) K
  iterate 1 (refine tr_mv rfl (fun _ => rfl) ?_)
  refine tr_if2 rfl (m32_of (by omega)) (fun c1 => ?_) (fun c1 => ?_)
  · exact h10 (by omega)
  · iterate 2 (refine tr_mv rfl (fun _ => rfl) ?_)
    refine tr_cmp2 rfl (m32_of (by omega)) (m32_of (by omega)) (fun c2 => ?_) (fun c2 => ?_)
    · iterate 2 (refine tr_mv rfl (fun _ => rfl) ?_)
      exact tr_rb1 rfl (Or.inl (by omega)) K
    · exact h10 (by omega)
/-! the model's -/
end SMALL
