/-! The class Entry: its places and small methods. -/
def isE (t : Nat) : Prop := ∃ j, j < 24 ∧ t = 360 + 5 * j
theorem E_all : ∀ j, j < 24 → (mShp[360 + 5 * j]? = some (20, 9) ∧ mShp[360 + 5 * j + 1]? = some (24, 2) ∧ mShp[360 + 5 * j + 2]? = some (0, 10) ∧ mShp[360 + 5 * j + 3]? = some (24, 2) ∧ mShp[360 + 5 * j + 4]? = some (0, 10) ∧ rowC (360 + 5 * j) = false ∧ mPtr (360 + 5 * j) 5 = some (360 + 5 * j + 1) ∧ mPtr (360 + 5 * j) 6 = some (360 + 5 * j + 3) ∧ mPtr (360 + 5 * j) 0 = none ∧ mPtr (360 + 5 * j) 1 = none ∧ mPtr (360 + 5 * j) 2 = none ∧ mPtr (360 + 5 * j) 3 = none ∧ mPtr (360 + 5 * j) 4 = none ∧ mPtr (360 + 5 * j) 7 = none ∧ mPtr (360 + 5 * j) 8 = none) := by decide +kernel
section ENTRY
variable {Ls N N1 N2 k pc n n' nn b c t u a q : Nat} {L L0 : mLs} {st r as : List mV} {h h' : mH} {σ σ' σ'' : Sg} {post : tP} {x y z x' y' i i' s v m w f : Int} {xs ys : List Int} {e : mE}
theorem E_O (h : isE t) : isO t 4 := by
  obtain ⟨j, hj, rfl⟩ := h
  exact ⟨by omega, (E_all j hj).1⟩
theorem E_r5 (h : isE t) : isRow (t + 1) 10 := by
  obtain ⟨j, hj, rfl⟩ := h
  exact ⟨by omega, (E_all j hj).2.1, (E_all j hj).2.2.1⟩
theorem E_c (h : isE t) : rowC t = false := by
  obtain ⟨j, hj, rfl⟩ := h
  exact (E_all j hj).2.2.2.2.2.1
theorem E_p5 (h : isE t) : mPtr t 5 = some (t + 1) := by
  obtain ⟨j, hj, rfl⟩ := h
  exact (E_all j hj).2.2.2.2.2.2.1
theorem E_n (h : isE t) : mPtr t 0 = none ∧ mPtr t 1 = none ∧ mPtr t 2 = none ∧ mPtr t 3 = none ∧ mPtr t 4 = none ∧ mPtr t 7 = none ∧ mPtr t 8 = none := by
  obtain ⟨j, hj, rfl⟩ := h
  exact (E_all j hj).2.2.2.2.2.2.2.2
theorem s_50 (ht : isE t) (K : post (.inl (some (mI (σ.2 t 0)))) σ) : Tr Ls N 50 0 [some (mP (some t))] [] σ post := by
  iterate 1 (refine tr_mv rfl (fun _ => rfl) ?_)
  refine tr_gi rfl (by decide) (E_O ht) (by decide) (E_c ht) (E_n ht).1 ?_
  exact tr_ri rfl rfl K
theorem s_51 (ht : isE t) (K : post (.inl (some (mI (σ.2 t 1)))) σ) : Tr Ls N 51 0 [some (mP (some t))] [] σ post := by
  iterate 1 (refine tr_mv rfl (fun _ => rfl) ?_)
  refine tr_gi rfl (by decide) (E_O ht) (by decide) (E_c ht) (E_n ht).2.1 ?_
  exact tr_ri rfl rfl K
theorem s_53 (ht : isE t) (K : post (.inl (some (mI (σ.2 t 2)))) σ) : Tr Ls N 53 0 [some (mP (some t))] [] σ post := by
  iterate 1 (refine tr_mv rfl (fun _ => rfl) ?_)
  refine tr_gi rfl (by decide) (E_O ht) (by decide) (E_c ht) (E_n ht).2.2.1 ?_
  exact tr_ri rfl rfl K
theorem s_55 (ht : isE t) (K : post (.inl (some (mI (σ.2 t 3)))) σ) : Tr Ls N 55 0 [some (mP (some t))] [] σ post := by
  iterate 1 (refine tr_mv rfl (fun _ => rfl) ?_)
  refine tr_gi rfl (by decide) (E_O ht) (by decide) (E_c ht) (E_n ht).2.2.2.1 ?_
  exact tr_ri rfl rfl K
theorem s_56 (ht : isE t) (K : post (.inl (some (mI (σ.2 t 4)))) σ) : Tr Ls N 56 0 [some (mP (some t))] [] σ post := by
  iterate 1 (refine tr_mv rfl (fun _ => rfl) ?_)
  refine tr_gi rfl (by decide) (E_O ht) (by decide) (E_c ht) (E_n ht).2.2.2.2.1 ?_
  exact tr_ri rfl rfl K
theorem s_67 (ht : isE t) (K : post (.inl (some (mI (σ.2 t 7)))) σ) : Tr Ls N 67 0 [some (mP (some t))] [] σ post := by
  iterate 1 (refine tr_mv rfl (fun _ => rfl) ?_)
  refine tr_gi rfl (by decide) (E_O ht) (by decide) (E_c ht) (E_n ht).2.2.2.2.2.1 ?_
  exact tr_ri rfl rfl K
theorem s_59 (ht : isE t) (K : post (.inl (some (mP (some (t + 1))))) σ) : Tr Ls N 59 0 [some (mP (some t))] [] σ post := by
  iterate 1 (refine tr_mv rfl (fun _ => rfl) ?_)
  refine tr_gr rfl (E_O ht) (by decide) (E_p5 ht) ?_
  exact tr_ret rfl (fun _ => rfl) K
theorem s_52 (ht : isE t) (hx : in32 (σ.2 t 1)) (K : post (.inl (some (mI (b2 (σ.2 t 1 ≠ -1))))) σ) : Tr Ls N 52 0 [some (mP (some t))] [] σ post := by
  iterate 1 (refine tr_mv rfl (fun _ => rfl) ?_)
  refine tr_gi rfl (by decide) (E_O ht) (by decide) (E_c ht) (E_n ht).2.1 ?_
  iterate 1 (refine tr_mv rfl (fun _ => rfl) ?_)
  refine tr_cmp2 rfl (m32_of (by omega)) (m32_of (by omega)) (fun c1 => ?_) (fun c1 => ?_)
  · iterate 1 (refine tr_mv rfl (fun _ => rfl) ?_)
    exact tr_rb0 rfl (by omega) K
  · iterate 2 (refine tr_mv rfl (fun _ => rfl) ?_)
    exact tr_rb1 rfl (by omega) K
theorem s_57 (ht : isE t) (hx : in32 (σ.2 t 3)) (K : post (.inl (some (mI (b2 (σ.2 t 3 = 2))))) σ) : Tr Ls N 57 0 [some (mP (some t))] [] σ post := by
  iterate 1 (refine tr_mv rfl (fun _ => rfl) ?_)
  refine tr_gi rfl (by decide) (E_O ht) (by decide) (E_c ht) (E_n ht).2.2.2.1 ?_
  iterate 1 (refine tr_mv rfl (fun _ => rfl) ?_)
  refine tr_cmp2 rfl (m32_of (by omega)) (m32_of (by omega)) (fun c1 => ?_) (fun c1 => ?_)
  · iterate 1 (refine tr_mv rfl (fun _ => rfl) ?_)
    exact tr_rb0 rfl (by omega) K
  · iterate 2 (refine tr_mv rfl (fun _ => rfl) ?_)
    exact tr_rb1 rfl (by omega) K
end ENTRY
