/-! Taking the draft apart: the model's. -/
def pushM (σ : Sg) (xs : List Int) (v : Int) : Sg := setF (setF σ 489 xs.length v) 480 13 ((xs.length : Int) + 1)
section MAPART
variable {Ls N N1 N2 k pc n n' nn b c t a q : Nat} {L L0 : mLs} {st r as : List mV} {h h' : mH} {σ σ' σ'' : Sg} {post : tP} {x y z x' y' i i' s v : Int} {xs ys : List Int} {e : mE} {C : Nat → Nat → Prop}
theorem mrow_push (hr : mrow σ xs) (hv : in32 v) : mrow (pushM σ xs v) (xs ++ [v]) := by
  refine ⟨?_, fun i hi => ?_, fun x hx => ?_⟩
  · show (xs.length : Int) + 1 = _
    simp
  · show mup σ.2 489 xs.length v 489 i = _
    unfold mup
    rw [if_pos rfl, List.getD_eq_getElem?_getD]
    have hi' : i < xs.length + 1 := by simpa using hi
    by_cases e : i = xs.length
    · rw [if_pos e, e]
      simp
    · rw [if_neg e, List.getElem?_append_left (by omega), hr.2.1 i (by omega), List.getD_eq_getElem?_getD]
  · rcases List.mem_append.mp hx with g | g
    · exact hr.2.2 x g
    · rw [List.mem_singleton.mp g]; exact hv
theorem only_push (σ : Sg) (xs : List Int) (v : Int) : only cRow σ (pushM σ xs v) := (only.rf.setF (Or.inl rfl)).setF (Or.inr ⟨rfl, rfl⟩)
theorem push_eq (hr : mrow σ xs) (v : Int) : setF (setF σ 489 ((xs.length : Int)).toNat v) 480 13 ((setF σ 489 ((xs.length : Int)).toNat v).2 480 13 + 1) = pushM σ xs v := by
  rw [show (setF σ 489 ((xs.length : Int)).toNat v).2 480 13 = σ.2 480 13 from rfl, hr.1, Int.toNat_natCast]
  rfl
theorem bMo_only (h : only cRow σ σ') : bMo σ' = bMo σ := by
  funext s
  unfold bMo
  rw [h.2 481 _ (fun g => by rcases g with g | g <;> omega)]
theorem kMo_only (h : only cRow σ σ') : kMo σ' = kMo σ := by
  funext s
  unfold kMo
  rw [h.2 482 _ (fun g => by rcases g with g | g <;> omega)]
theorem s_223 (hs : okS (bMo σ) s) (hT : okB (bMo σ) (kMo σ)) (hr : mrow σ xs) (hl : xs.length + 3 ≤ 64) (K : ∀ σ', mrow σ' (xs ++ apart1 (bMo σ) (kMo σ) s) → only cRow σ σ' → post (.inl none) σ') :
    Tr Ls N 223 0 [some (mP (some 480)), some (mI s), none] [] σ post := by
  unfold apart1 at K
  dsimp only at K
  obtain ⟨hs1, hs2, hs3⟩ := hs
  have hlow : ∀ u, u < 40 → bMo σ u = -1 := fun u hu => if_neg (by omega)
  have hhi : ∀ u, 40 ≤ u → bMo σ u = σ.2 481 (u - 40).toNat := fun u hu => if_pos hu
  have khi : ∀ u, 40 ≤ u → kMo σ u = σ.2 482 (u - 40).toNat := fun u hu => if_pos hu
  have key : ∀ u, okS (bMo σ) u → u = (if bMo σ s ≠ -1 then bMo σ s else s) → Tr Ls N 223 20 [some (mP (some 480)), some (mI s), some (mI u)] [] σ post := by
    intro u hu e
    rw [← e] at K
    obtain ⟨hu1, hu2, hu3⟩ := hu
    have tl : ∀ (σ' : Sg) (ys : List Int), only cRow σ σ' → mrow σ' ys → ys.length < 64 → (∀ σ'', mrow σ'' (ys ++ if bMo σ s ≠ -1 then [kMo σ s] else []) → only cRow σ σ'' → post (.inl none) σ'') → Tr Ls N 223 92 [some (mP (some 480)), some (mI s), some (mI u)] [] σ' post := by
      intro σ' ys ho hr' hl' K'
      iterate 2 (refine tr_mv rfl (fun _ => rfl) ?_)
      refine tr_cmp2 rfl (m32_of (by omega)) (m32_of (by omega)) (fun c1 => ?_) (fun c1 => ?_)
      · rw [hlow s c1, if_neg (by simp), List.append_nil] at K'
        exact tr_ret rfl (fun _ => rfl) (K' σ' hr' ho)
      · have hsm := (hT s hs1 hs2 (hs3 (by omega))).2.2
        rw [if_pos (hs3 (by omega))] at K'
        repeat (first | refine tr_mgr rfl (by decide) rfl ?_ | refine tr_mgi rfl (by decide) (by decide) rfl ?_ | (refine tr_rem ?_ ?_ rfl ?_; omega; omega) | (refine tr_div ?_ ?_ rfl ?_; omega; omega) | refine tr_mv rfl (fun _ => rfl) ?_ | refine tr_ma rfl (m32_of (by omega)) (by omega) rfl (fun _ => rfl) rfl rfl ?_)
        rw [hr'.1, ho.2 482 _ (fun g => by rcases g with g | g <;> omega), ← khi s (by omega)]
        refine tr_ms rfl (m32_of (by omega)) (by omega) rfl (fun _ => rfl) rfl rfl ?_
        repeat (first | refine tr_mgr rfl (by decide) rfl ?_ | refine tr_mgi rfl (by decide) (by decide) rfl ?_ | (refine tr_rem ?_ ?_ rfl ?_; omega; omega) | (refine tr_div ?_ ?_ rfl ?_; omega; omega) | refine tr_mv rfl (fun _ => rfl) ?_ | refine tr_ma rfl (m32_of (by omega)) (by omega) rfl (fun _ => rfl) rfl rfl ?_)
        refine tr_mpi rfl (Or.inl rfl) (by decide) rfl ?_
        rw [push_eq hr']
        exact tr_ret rfl (fun _ => rfl) (K' _ (mrow_push hr' (by omega)) (ho.tr (only_push _ _ _)))
    repeat (first | refine tr_mgr rfl (by decide) rfl ?_ | refine tr_mgi rfl (by decide) (by decide) rfl ?_ | (refine tr_rem ?_ ?_ rfl ?_; omega; omega) | (refine tr_div ?_ ?_ rfl ?_; omega; omega) | refine tr_mv rfl (fun _ => rfl) ?_ | refine tr_ma rfl (m32_of (by omega)) (by omega) rfl (fun _ => rfl) rfl rfl ?_)
    rw [hr.1]
    refine tr_cmp2 rfl (m32_of (by omega)) (m32_of (by omega)) (fun c1 => ?_) (fun c1 => ?_)
    · rw [hlow u c1, if_neg (by simp)] at K
      iterate 1 (refine tr_mv rfl (fun _ => rfl) ?_)
      refine tr_ms rfl (m32_of (by omega)) (by omega) rfl (fun _ => rfl) rfl rfl ?_
      repeat (first | refine tr_mgr rfl (by decide) rfl ?_ | refine tr_mgi rfl (by decide) (by decide) rfl ?_ | (refine tr_rem ?_ ?_ rfl ?_; omega; omega) | (refine tr_div ?_ ?_ rfl ?_; omega; omega) | refine tr_mv rfl (fun _ => rfl) ?_ | refine tr_ma rfl (m32_of (by omega)) (by omega) rfl (fun _ => rfl) rfl rfl ?_)
      refine tr_mpi rfl (Or.inl rfl) (by decide) rfl ?_
      rw [push_eq hr]
      iterate 2 (refine tr_mv rfl (fun _ => rfl) ?_)
      refine tr_cmp2 rfl (m32_of (by omega)) (m32_of (by omega)) (fun c2 => ?_) (fun c2 => ?_)
      · refine tl _ _ (only_push _ _ _) (mrow_push hr (by omega)) (by simp; omega) (fun σ'' g1 g2 => K σ'' ?_ g2)
        simpa using g1
      · exact absurd c1 c2
    · have hub := hT u hu1 hu2 (hu3 (by omega))
      have hub1 := hub.1.1
      have hub2 := hub.1.2.1
      have hum := hub.2.2
      rw [if_pos (hu3 (by omega))] at K
      repeat (first | refine tr_mgr rfl (by decide) rfl ?_ | refine tr_mgi rfl (by decide) (by decide) rfl ?_ | (refine tr_rem ?_ ?_ rfl ?_; omega; omega) | (refine tr_div ?_ ?_ rfl ?_; omega; omega) | refine tr_mv rfl (fun _ => rfl) ?_ | refine tr_ma rfl (m32_of (by omega)) (by omega) rfl (fun _ => rfl) rfl rfl ?_)
      rw [← hhi u (by omega)]
      refine tr_ms rfl (m32_of (by omega)) (by omega) rfl (fun _ => rfl) rfl rfl ?_
      repeat (first | refine tr_mgr rfl (by decide) rfl ?_ | refine tr_mgi rfl (by decide) (by decide) rfl ?_ | (refine tr_rem ?_ ?_ rfl ?_; omega; omega) | (refine tr_div ?_ ?_ rfl ?_; omega; omega) | refine tr_mv rfl (fun _ => rfl) ?_ | refine tr_ma rfl (m32_of (by omega)) (by omega) rfl (fun _ => rfl) rfl rfl ?_)
      refine tr_mpi rfl (Or.inl rfl) (by decide) rfl ?_
      rw [push_eq hr]
      iterate 2 (refine tr_mv rfl (fun _ => rfl) ?_)
      refine tr_cmp2 rfl (m32_of (by omega)) (m32_of (by omega)) (fun c2 => ?_) (fun c2 => ?_)
      · exact absurd c2 c1
      · have hr2 := mrow_push hr (show in32 (bMo σ u) by omega)
        repeat (first | refine tr_mgr rfl (by decide) rfl ?_ | refine tr_mgi rfl (by decide) (by decide) rfl ?_ | (refine tr_rem ?_ ?_ rfl ?_; omega; omega) | (refine tr_div ?_ ?_ rfl ?_; omega; omega) | refine tr_mv rfl (fun _ => rfl) ?_ | refine tr_ma rfl (m32_of (by omega)) (by omega) rfl (fun _ => rfl) rfl rfl ?_)
        rw [hr2.1, (only_push σ xs (bMo σ u)).2 482 _ (fun g => by rcases g with g | g <;> omega), ← khi u (by omega)]
        have hl2 : (xs ++ [bMo σ u]).length = xs.length + 1 := by simp
        refine tr_ms rfl (m32_of (by omega)) (by omega) rfl (fun _ => rfl) rfl rfl ?_
        repeat (first | refine tr_mgr rfl (by decide) rfl ?_ | refine tr_mgi rfl (by decide) (by decide) rfl ?_ | (refine tr_rem ?_ ?_ rfl ?_; omega; omega) | (refine tr_div ?_ ?_ rfl ?_; omega; omega) | refine tr_mv rfl (fun _ => rfl) ?_ | refine tr_ma rfl (m32_of (by omega)) (by omega) rfl (fun _ => rfl) rfl rfl ?_)
        refine tr_mpi rfl (Or.inl rfl) (by decide) rfl ?_
        rw [push_eq hr2]
        refine tl _ _ ((only_push _ _ _).tr (only_push _ _ _)) (mrow_push hr2 (by omega)) (by simp; omega) (fun σ'' g1 g2 => K σ'' ?_ g2)
        simpa using g1
  iterate 2 (refine tr_mv rfl (fun _ => rfl) ?_)
  refine tr_cmp2 rfl (m32_of (by omega)) (m32_of (by omega)) (fun c1 => ?_) (fun c1 => ?_)
  · iterate 2 (refine tr_mv rfl (fun _ => rfl) ?_)
    exact key s ⟨hs1, hs2, hs3⟩ (by rw [hlow s c1, if_neg (by simp)])
  · have h9 := hT s hs1 hs2 (hs3 (by omega))
    have h1 := h9.1.1
    have h2 := h9.1.2.1
    iterate 1 (refine tr_mv rfl (fun _ => rfl) ?_)
    refine tr_mgr rfl (by decide) rfl ?_
    iterate 3 (refine tr_mv rfl (fun _ => rfl) ?_)
    refine tr_ma rfl (m32_of (by omega)) (by omega) rfl (fun _ => rfl) rfl rfl ?_
    rw [← hhi s (by omega)]
    iterate 2 (refine tr_mv rfl (fun _ => rfl) ?_)
    exact key _ h9.1 (by rw [if_pos (hs3 (by omega))])
theorem m224_loop1 (hT : okB (bMo σ) (kMo σ)) : ∀ (rest : List Int) (d : Nat) (σ' : Sg) (xs : List Int), only cRow σ σ' → mrow σ' xs → σ.2 480 4 = ((d + rest.length : Nat) : Int) → (d + rest.length ≤ 10) → (∀ i, i < rest.length → σ.2 483 (d + i) = rest.getD i 0) → (∀ s ∈ rest, okS (bMo σ) s) → xs.length ≤ 3 * d → (∀ σ'', mrow σ'' (xs ++ rest.flatMap (apart1 (bMo σ) (kMo σ))) → only cRow σ σ'' → Tr Ls N 224 31 [some (mP (some 480)), some (mI ((d + rest.length : Nat) : Int)), none, none] [] σ'' post) →
    Tr Ls N 224 7 [some (mP (some 480)), some (mI (d : Int)), none, none] [] σ' post := by
  intro rest
  induction rest with
  | nil =>
    intro d σ' xs ho hr hd hd2 hs hok hx K
    iterate 2 (refine tr_mv rfl (fun _ => rfl) ?_)
    refine tr_mgi rfl (by decide) (by decide) rfl ?_
    rw [ho.2 480 4 (fun g => by rcases g with g | g <;> omega), hd]
    refine tr_cmp2 rfl (m32_of (by omega)) (m32_of (by omega)) (fun _ => ?_) (fun c1 => absurd (Int.le_refl _) c1)
    exact K σ' (by simpa using hr) ho
  | cons s rest ih =>
    intro d σ' xs ho hr hd hd2 hs hok hx K
    have hl2 : (s :: rest).length = rest.length + 1 := rfl
    have hsin := hok s List.mem_cons_self
    iterate 2 (refine tr_mv rfl (fun _ => rfl) ?_)
    refine tr_mgi rfl (by decide) (by decide) rfl ?_
    rw [ho.2 480 4 (fun g => by rcases g with g | g <;> omega), hd]
    refine tr_cmp2 rfl (m32_of (by omega)) (m32_of (by omega)) (fun c1 => absurd c1 (by show ¬ _ ≤ _; omega)) (fun _ => ?_)
    iterate 2 (refine tr_mv rfl (fun _ => rfl) ?_)
    refine tr_mgr rfl (by decide) rfl ?_
    iterate 1 (refine tr_mv rfl (fun _ => rfl) ?_)
    refine tr_ma rfl (m32_of (by omega)) (by omega) rfl (fun _ => rfl) rfl rfl ?_
    rw [ho.2 483 _ (fun g => by rcases g with g | g <;> omega), Int.toNat_natCast, show σ.2 483 d = s from hs 0 (by simp)]
    have hx3 := apart1_len (bMo σ) (kMo σ) s
    refine tr_vc (q := 480) rfl isO_480 rfl rfl rfl (s_223 (xs := xs) (by rw [bMo_only ho]; exact hsin) (by rw [bMo_only ho, kMo_only ho]; exact hT) hr (by omega) (fun σ2 g1 g2 => ?_))
    rw [bMo_only ho, kMo_only ho] at g1
    iterate 2 (refine tr_mv rfl (fun _ => rfl) ?_)
    show Tr Ls N 224 7 [some (mP (some 480)), some (mI ((d : Int) + 1)), none, none] [] σ2 post
    rw [show (d : Int) + 1 = ((d + 1 : Nat) : Int) by omega]
    refine ih (d + 1) σ2 _ (ho.tr g2) g1 (by rw [hd]; congr 1; omega) (by omega) (fun i hi => ?_) (fun z hz => hok z (List.mem_cons_of_mem _ hz)) (by simp; omega) (fun σ'' k1 k2 => ?_)
    · rw [show d + 1 + i = d + (i + 1) by omega, hs (i + 1) (by omega)]
      rfl
    · rw [show d + 1 + rest.length = d + (s :: rest).length by omega]
      exact K σ'' (by simpa using k1) k2
end MAPART
