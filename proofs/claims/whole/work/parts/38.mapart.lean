/-! Taking the draft apart: the model's. -/
def pushM (σ : Sg) (xs : List Int) (v : Int) : Sg := setF (setF σ 489 xs.length v) 480 13 ((xs.length : Int) + 1)
section MAPART
variable {Ls N N1 N2 k pc n n' nn b c t a q : Nat} {L L0 : mLs} {st r as : List mV} {h h' : mH} {σ σ' σ'' : Sg} {post : tP} {x y z x' y' i i' s v : Int} {xs ys : List Int} {e : mE} {C : Nat → Nat → Prop}
theorem mrow_push (hr : mrow σ xs) (hv : in32 v) : mrow (pushM σ xs v) (xs ++ [v]) := by
  refine ⟨?_, fun i hi => ?_, fun x hx => ?_⟩
  · show (xs.length : Int) + 1 = _
    simp
  · show mup σ.2 489 xs.length v 489 i = _
    unfold mup
    rw [if_pos rfl, List.getD_eq_getElem?_getD]
    have hi' : i < xs.length + 1 := by simpa using hi
    by_cases e : i = xs.length
    · rw [if_pos e, e]
      simp
    · rw [if_neg e, List.getElem?_append_left (by omega), hr.2.1 i (by omega), List.getD_eq_getElem?_getD]
  · rcases List.mem_append.mp hx with g | g
    · exact hr.2.2 x g
    · rw [List.mem_singleton.mp g]; exact hv
theorem only_push (σ : Sg) (xs : List Int) (v : Int) : only cRow σ (pushM σ xs v) := (only.rf.setF (Or.inl rfl)).setF (Or.inr ⟨rfl, rfl⟩)
theorem push_eq (hr : mrow σ xs) (v : Int) : setF (setF σ 489 ((xs.length : Int)).toNat v) 480 13 ((setF σ 489 ((xs.length : Int)).toNat v).2 480 13 + 1) = pushM σ xs v := by
  rw [show (setF σ 489 ((xs.length : Int)).toNat v).2 480 13 = σ.2 480 13 from rfl, hr.1, Int.toNat_natCast]
  rfl
theorem bMo_only (h : only cRow σ σ') : bMo σ' = bMo σ := by
  funext s
  unfold bMo
  rw [h.2 481 _ (fun g => by rcases g with g | g <;> omega)]
theorem kMo_only (h : only cRow σ σ') : kMo σ' = kMo σ := by
  funext s
  unfold kMo
  rw [h.2 482 _ (fun g => by rcases g with g | g <;> omega)]
theorem s_223 (hs : okS (bMo σ) s) (hT : okB (bMo σ) (kMo σ)) (hr : mrow σ xs) (hl : xs.length + 3 ≤ 64) (K : ∀ σ', mrow σ' (xs ++ apart1 (bMo σ) (kMo σ) s) → only cRow σ σ' → post (.inl none) σ') :
    Tr Ls N 223 0 [some (mP (some 480)), some (mI s), none] [] σ post := by
  unfold apart1 at K
  dsimp only at K
  obtain ⟨hs1, hs2, hs3⟩ := hs
  have hlow : ∀ u, u < 40 → bMo σ u = -1 := fun u hu => if_neg (by omega)
  have hhi : ∀ u, 40 ≤ u → bMo σ u = σ.2 481 (u - 40).toNat := fun u hu => if_pos hu
  have khi : ∀ u, 40 ≤ u → kMo σ u = σ.2 482 (u - 40).toNat := fun u hu => if_pos hu
  have key : ∀ u, okS (bMo σ) u → u = (if bMo σ s ≠ -1 then bMo σ s else s) → Tr Ls N 223 20 [some (mP (some 480)), some (mI s), some (mI u)] [] σ post := by
    intro u hu e
    rw [← e] at K
    obtain ⟨hu1, hu2, hu3⟩ := hu
    have tl : ∀ (σ' : Sg) (ys : List Int), only cRow σ σ' → mrow σ' ys → ys.length < 64 → (∀ σ'', mrow σ'' (ys ++ if bMo σ s ≠ -1 then [kMo σ s] else []) → only cRow σ σ'' → post (.inl none) σ'') → Tr Ls N 223 92 [some (mP (some 480)), some (mI s), some (mI u)] [] σ' post := by
      intro σ' ys ho hr' hl' K'
      iterate 2 (refine tr_mv rfl (fun _ => rfl) ?_)
      refine tr_cmp2 rfl (m32_of (by omega)) (m32_of (by omega)) (fun c1 => ?_) (fun c1 => ?_)
      · rw [hlow s c1, if_neg (by simp), List.append_nil] at K'
        exact tr_ret rfl (fun _ => rfl) (K' σ' hr' ho)
      · have hsm := (hT s hs1 hs2 (hs3 (by omega))).2.2
        rw [if_pos (hs3 (by omega))] at K'
        repeat (first | refine tr_mgr rfl (by decide) rfl ?_ | refine tr_mgi rfl (by decide) (by decide) rfl ?_ | (refine tr_rem ?_ ?_ rfl ?_; omega; omega) | (refine tr_div ?_ ?_ rfl ?_; omega; omega) | refine tr_mv rfl (fun _ => rfl) ?_ | refine tr_ma rfl (m32_of (by omega)) (by omega) rfl (fun _ => rfl) rfl rfl ?_)
        rw [hr'.1, ho.2 482 _ (fun g => by rcases g with g | g <;> omega), ← khi s (by omega)]
        refine tr_ms rfl (m32_of (by omega)) (by omega) rfl (fun _ => rfl) rfl rfl ?_
        repeat (first | refine tr_mgr rfl (by decide) rfl ?_ | refine tr_mgi rfl (by decide) (by decide) rfl ?_ | (refine tr_rem ?_ ?_ rfl ?_; omega; omega) | (refine tr_div ?_ ?_ rfl ?_; omega; omega) | refine tr_mv rfl (fun _ => rfl) ?_ | refine tr_ma rfl (m32_of (by omega)) (by omega) rfl (fun _ => rfl) rfl rfl ?_)
        refine tr_mpi rfl (Or.inl rfl) (by decide) rfl ?_
        rw [push_eq hr']
        exact tr_ret rfl (fun _ => rfl) (K' _ (mrow_push hr' (by omega)) (ho.tr (only_push _ _ _)))
    repeat (first | refine tr_mgr rfl (by decide) rfl ?_ | refine tr_mgi rfl (by decide) (by decide) rfl ?_ | (refine tr_rem ?_ ?_ rfl ?_; omega; omega) | (refine tr_div ?_ ?_ rfl ?_; omega; omega) | refine tr_mv rfl (fun _ => rfl) ?_ | refine tr_ma rfl (m32_of (by omega)) (by omega) rfl (fun _ => rfl) rfl rfl ?_)
    rw [hr.1]
    refine tr_cmp2 rfl (m32_of (by omega)) (m32_of (by omega)) (fun c1 => ?_) (fun c1 => ?_)
    · rw [hlow u c1, if_neg (by simp)] at K
      iterate 1 (refine tr_mv rfl (fun _ => rfl) ?_)
      refine tr_ms rfl (m32_of (by omega)) (by omega) rfl (fun _ => rfl) rfl rfl ?_
      repeat (first | refine tr_mgr rfl (by decide) rfl ?_ | refine tr_mgi rfl (by decide) (by decide) rfl ?_ | (refine tr_rem ?_ ?_ rfl ?_; omega; omega) | (refine tr_div ?_ ?_ rfl ?_; omega; omega) | refine tr_mv rfl (fun _ => rfl) ?_ | refine tr_ma rfl (m32_of (by omega)) (by omega) rfl (fun _ => rfl) rfl rfl ?_)
      refine tr_mpi rfl (Or.inl rfl) (by decide) rfl ?_
      rw [push_eq hr]
      iterate 2 (refine tr_mv rfl (fun _ => rfl) ?_)
      refine tr_cmp2 rfl (m32_of (by omega)) (m32_of (by omega)) (fun c2 => ?_) (fun c2 => ?_)
      · refine tl _ _ (only_push _ _ _) (mrow_push hr (by omega)) (by simp; omega) (fun σ'' g1 g2 => K σ'' ?_ g2)
        simpa using g1
      · exact absurd c1 c2
    · have hub := hT u hu1 hu2 (hu3 (by omega))
      have hub1 := hub.1.1
      have hub2 := hub.1.2.1
      have hum := hub.2.2
      rw [if_pos (hu3 (by omega))] at K
      repeat (first | refine tr_mgr rfl (by decide) rfl ?_ | refine tr_mgi rfl (by decide) (by decide) rfl ?_ | (refine tr_rem ?_ ?_ rfl ?_; omega; omega) | (refine tr_div ?_ ?_ rfl ?_; omega; omega) | refine tr_mv rfl (fun _ => rfl) ?_ | refine tr_ma rfl (m32_of (by omega)) (by omega) rfl (fun _ => rfl) rfl rfl ?_)
      rw [← hhi u (by omega)]
      refine tr_ms rfl (m32_of (by omega)) (by omega) rfl (fun _ => rfl) rfl rfl ?_
      repeat (first | refine tr_mgr rfl (by decide) rfl ?_ | refine tr_mgi rfl (by decide) (by decide) rfl ?_ | (refine tr_rem ?_ ?_ rfl ?_; omega; omega) | (refine tr_div ?_ ?_ rfl ?_; omega; omega) | refine tr_mv rfl (fun _ => rfl) ?_ | refine tr_ma rfl (m32_of (by omega)) (by omega) rfl (fun _ => rfl) rfl rfl ?_)
      refine tr_mpi rfl (Or.inl rfl) (by decide) rfl ?_
      rw [push_eq hr]
      iterate 2 (refine tr_mv rfl (fun _ => rfl) ?_)
      refine tr_cmp2 rfl (m32_of (by omega)) (m32_of (by omega)) (fun c2 => ?_) (fun c2 => ?_)
      · exact absurd c2 c1
      · have hr2 := mrow_push hr (show in32 (bMo σ u) by omega)
        repeat (first | refine tr_mgr rfl (by decide) rfl ?_ | refine tr_mgi rfl (by decide) (by decide) rfl ?_ | (refine tr_rem ?_ ?_ rfl ?_; omega; omega) | (refine tr_div ?_ ?_ rfl ?_; omega; omega) | refine tr_mv rfl (fun _ => rfl) ?_ | refine tr_ma rfl (m32_of (by omega)) (by omega) rfl (fun _ => rfl) rfl rfl ?_)
        rw [hr2.1, (only_push σ xs (bMo σ u)).2 482 _ (fun g => by rcases g with g | g <;> omega), ← khi u (by omega)]
        have hl2 : (xs ++ [bMo σ u]).length = xs.length + 1 := by simp
        refine tr_ms rfl (m32_of (by omega)) (by omega) rfl (fun _ => rfl) rfl rfl ?_
        repeat (first | refine tr_mgr rfl (by decide) rfl ?_ | refine tr_mgi rfl (by decide) (by decide) rfl ?_ | (refine tr_rem ?_ ?_ rfl ?_; omega; omega) | (refine tr_div ?_ ?_ rfl ?_; omega; omega) | refine tr_mv rfl (fun _ => rfl) ?_ | refine tr_ma rfl (m32_of (by omega)) (by omega) rfl (fun _ => rfl) rfl rfl ?_)
        refine tr_mpi rfl (Or.inl rfl) (by decide) rfl ?_
        rw [push_eq hr2]
        refine tl _ _ ((only_push _ _ _).tr (only_push _ _ _)) (mrow_push hr2 (by omega)) (by simp; omega) (fun σ'' g1 g2 => K σ'' ?_ g2)
        simpa using g1
  iterate 2 (refine tr_mv rfl (fun _ => rfl) ?_)
  refine tr_cmp2 rfl (m32_of (by omega)) (m32_of (by omega)) (fun c1 => ?_) (fun c1 => ?_)
  · iterate 2 (refine tr_mv rfl (fun _ => rfl) ?_)
    exact key s ⟨hs1, hs2, hs3⟩ (by rw [hlow s c1, if_neg (by simp)])
  · have h9 := hT s hs1 hs2 (hs3 (by omega))
    have h1 := h9.1.1
    have h2 := h9.1.2.1
    iterate 1 (refine tr_mv rfl (fun _ => rfl) ?_)
    refine tr_mgr rfl (by decide) rfl ?_
    iterate 3 (refine tr_mv rfl (fun _ => rfl) ?_)
    refine tr_ma rfl (m32_of (by omega)) (by omega) rfl (fun _ => rfl) rfl rfl ?_
    rw [← hhi s (by omega)]
    iterate 2 (refine tr_mv rfl (fun _ => rfl) ?_)
    exact key _ h9.1 (by rw [if_pos (hs3 (by omega))])
theorem m224_loop1 (hT : okB (bMo σ) (kMo σ)) : ∀ (rest : List Int) (d : Nat) (σ' : Sg) (xs : List Int), only cRow σ σ' → mrow σ' xs → σ.2 480 4 = ((d + rest.length : Nat) : Int) → (d + rest.length ≤ 10) → (∀ i, i < rest.length → σ.2 483 (d + i) = rest.getD i 0) → (∀ s ∈ rest, okS (bMo σ) s) → xs.length ≤ 3 * d → (∀ σ'', mrow σ'' (xs ++ rest.flatMap (apart1 (bMo σ) (kMo σ))) → only cRow σ σ'' → Tr Ls N 224 31 [some (mP (some 480)), some (mI ((d + rest.length : Nat) : Int)), none, none] [] σ'' post) →
    Tr Ls N 224 7 [some (mP (some 480)), some (mI (d : Int)), none, none] [] σ' post := by
  intro rest
  induction rest with
  | nil =>
    intro d σ' xs ho hr hd hd2 hs hok hx K
    iterate 2 (refine tr_mv rfl (fun _ => rfl) ?_)
    refine tr_mgi rfl (by decide) (by decide) rfl ?_
    rw [ho.2 480 4 (fun g => by rcases g with g | g <;> omega), hd]
    refine tr_cmp2 rfl (m32_of (by omega)) (m32_of (by omega)) (fun _ => ?_) (fun c1 => absurd (Int.le_refl _) c1)
    exact K σ' (by simpa using hr) ho
  | cons s rest ih =>
    intro d σ' xs ho hr hd hd2 hs hok hx K
    have hl2 : (s :: rest).length = rest.length + 1 := rfl
    have hsin := hok s List.mem_cons_self
    iterate 2 (refine tr_mv rfl (fun _ => rfl) ?_)
    refine tr_mgi rfl (by decide) (by decide) rfl ?_
    rw [ho.2 480 4 (fun g => by rcases g with g | g <;> omega), hd]
    refine tr_cmp2 rfl (m32_of (by omega)) (m32_of (by omega)) (fun c1 => absurd c1 (by show ¬ _ ≤ _; omega)) (fun _ => ?_)
    iterate 2 (refine tr_mv rfl (fun _ => rfl) ?_)
    refine tr_mgr rfl (by decide) rfl ?_
    iterate 1 (refine tr_mv rfl (fun _ => rfl) ?_)
    refine tr_ma rfl (m32_of (by omega)) (by omega) rfl (fun _ => rfl) rfl rfl ?_
    rw [ho.2 483 _ (fun g => by rcases g with g | g <;> omega), Int.toNat_natCast, show σ.2 483 d = s from hs 0 (by simp)]
    have hx3 := apart1_len (bMo σ) (kMo σ) s
    refine tr_vc (q := 480) rfl isO_480 rfl rfl rfl (s_223 (xs := xs) (by rw [bMo_only ho]; exact hsin) (by rw [bMo_only ho, kMo_only ho]; exact hT) hr (by omega) (fun σ2 g1 g2 => ?_))
    rw [bMo_only ho, kMo_only ho] at g1
    iterate 2 (refine tr_mv rfl (fun _ => rfl) ?_)
    show Tr Ls N 224 7 [some (mP (some 480)), some (mI ((d : Int) + 1)), none, none] [] σ2 post
    rw [show (d : Int) + 1 = ((d + 1 : Nat) : Int) by omega]
    refine ih (d + 1) σ2 _ (ho.tr g2) g1 (by rw [hd]; congr 1; omega) (by omega) (fun i hi => ?_) (fun z hz => hok z (List.mem_cons_of_mem _ hz)) (by simp; omega) (fun σ'' k1 k2 => ?_)
    · rw [show d + 1 + i = d + (i + 1) by omega, hs (i + 1) (by omega)]
      rfl
    · rw [show d + 1 + rest.length = d + (s :: rest).length by omega]
      exact K σ'' (by simpa using k1) k2
theorem mrow_set (hr : mrow σ xs) {j : Nat} (hj : j < xs.length) (hv : in32 v) : mrow (setF σ 489 j v) (xs.set j v) := by
  refine ⟨by rw [List.length_set]; exact hr.1, fun i hi => ?_, fun y hy => ?_⟩
  · rw [List.length_set] at hi
    show mup σ.2 489 j v 489 i = _
    unfold mup
    rw [if_pos rfl, List.getD_eq_getElem?_getD, List.getElem?_set]
    by_cases e : i = j
    · rw [if_pos e, if_pos e.symm, if_pos hj]
      rfl
    · rw [if_neg e, if_neg (Ne.symm e), hr.2.1 i hi, List.getD_eq_getElem?_getD]
  · rcases List.mem_or_eq_of_mem_set hy with g | g
    · exact hr.2.2 y g
    · rw [g]; exact hv
theorem mrow_at (hr : mrow σ (xs ++ x :: ys)) {j : Nat} (hj : j = xs.length) : σ.2 489 j = x := by
  subst hj
  rw [hr.2.1 _ (by simp), List.getD_eq_getElem?_getD]
  simp
theorem m224_inner (kk : Int) (post0 : List Int) : ∀ (p q : List Int) (x : Int) (σ' : Sg) (v3 : Option mV), mrow σ' (p.reverse ++ x :: (q ++ post0)) → p.length + q.length + post0.length < 60 → (∀ σ'' at' v', mrow σ'' ((sink x p).reverse ++ (q ++ post0)) → only cRow σ' σ'' → Tr Ls N 224 132 [some (mP (some 480)), some (mI kk), some (mI at'), v'] [] σ'' post) →
    Tr Ls N 224 43 [some (mP (some 480)), some (mI kk), some (mI (p.length : Int)), v3] [] σ' post := by
  intro p
  induction p with
  | nil =>
    intro q x σ' v3 hr hl K
    have K' := K σ' 0 v3 hr only.rf
    iterate 2 (refine tr_mv rfl (fun _ => rfl) ?_)
    exact K'
  | cons y ys ih =>
    intro q x σ' v3 hr hl K
    have hl2 : (y :: ys).length = ys.length + 1 := rfl
    have hr2 : mrow σ' (ys.reverse ++ y :: (x :: (q ++ post0))) := by simpa using hr
    have ex : σ'.2 489 (y :: ys).length = x := mrow_at hr (by simp)
    have ey : σ'.2 489 ys.length = y := mrow_at hr2 (by simp)
    have hx : in32 x := hr.2.2 x (by simp)
    have hy : in32 y := hr.2.2 y (by simp)
    have e1 : (((y :: ys).length : Nat) : Int) - 1 = (ys.length : Int) := by omega
    have hfin : ¬ (isMrk x ∧ clsOf x < clsOf y) → Tr Ls N 224 132 [some (mP (some 480)), some (mI kk), some (mI ((y :: ys).length : Int)), v3] [] σ' post := by
      intro hc
      refine K σ' _ v3 ?_ only.rf
      unfold sink
      rw [if_neg hc]
      simpa using hr
    iterate 1 (refine tr_mv rfl (fun _ => rfl) ?_)
    refine tr_if2 rfl (m32_of (by omega)) (fun c1 => absurd c1 (by show ¬ _ ≤ _; omega)) (fun _ => ?_)
    iterate 1 (refine tr_mv rfl (fun _ => rfl) ?_)
    refine tr_mgr rfl (by decide) rfl ?_
    iterate 1 (refine tr_mv rfl (fun _ => rfl) ?_)
    refine tr_ma rfl (m32_of (by omega)) (by omega) rfl (fun _ => rfl) rfl rfl ?_
    rw [Int.toNat_natCast, ex]
    refine tr_stat rfl rfl rfl (s_212 hx ?_)
    first | refine tr_ib rfl (fun c2 => ?_) (fun c2 => ?_) | refine tr_ibn rfl (fun c2 => ?_) (fun c2 => ?_)
    · exact hfin (fun g => c2 g.1)
    · iterate 1 (refine tr_mv rfl (fun _ => rfl) ?_)
      refine tr_mgr rfl (by decide) rfl ?_
      iterate 3 (refine tr_mv rfl (fun _ => rfl) ?_)
      refine tr_ma rfl (m32_of (by omega)) (by omega) rfl (fun _ => rfl) rfl rfl ?_
      rw [e1, Int.toNat_natCast, ey]
      refine tr_stat rfl rfl rfl (s_212 hy ?_)
      first | refine tr_ib rfl (fun c3 => ?_) (fun c3 => ?_) | refine tr_ibn rfl (fun c3 => ?_) (fun c3 => ?_)
      · refine hfin (fun g => ?_)
        have g2 := g.2
        have g3 := clsOf_in x
        rw [show clsOf y = 0 from if_neg c3] at g2
        omega
      · have cx : clsOf x = if x < 26 then 1 else x - 24 := if_pos c2
        have cy : clsOf y = if y < 26 then 1 else y - 24 := if_pos c3
        iterate 1 (refine tr_mv rfl (fun _ => rfl) ?_)
        refine tr_mgr rfl (by decide) rfl ?_
        iterate 3 (refine tr_mv rfl (fun _ => rfl) ?_)
        refine tr_ma rfl (m32_of (by omega)) (by omega) rfl (fun _ => rfl) rfl rfl ?_
        rw [e1, Int.toNat_natCast, ey]
        refine tr_stat rfl rfl rfl (s_215 hy ?_)
        iterate 1 (refine tr_mv rfl (fun _ => rfl) ?_)
        refine tr_mgr rfl (by decide) rfl ?_
        iterate 1 (refine tr_mv rfl (fun _ => rfl) ?_)
        refine tr_ma rfl (m32_of (by omega)) (by omega) rfl (fun _ => rfl) rfl rfl ?_
        rw [Int.toNat_natCast, ex]
        refine tr_stat rfl rfl rfl (s_215 hx ?_)
        refine tr_cmp2 rfl (m32_of (by omega)) (m32_of (by omega)) (fun c4 => ?_) (fun c4 => ?_)
        · exact hfin (fun g => by omega)
        · iterate 1 (refine tr_mv rfl (fun _ => rfl) ?_)
          refine tr_mgr rfl (by decide) rfl ?_
          iterate 1 (refine tr_mv rfl (fun _ => rfl) ?_)
          refine tr_ma rfl (m32_of (by omega)) (by omega) rfl (fun _ => rfl) rfl rfl ?_
          rw [Int.toNat_natCast, ex]
          iterate 2 (refine tr_mv rfl (fun _ => rfl) ?_)
          refine tr_mgr rfl (by decide) rfl ?_
          iterate 2 (refine tr_mv rfl (fun _ => rfl) ?_)
          refine tr_mgr rfl (by decide) rfl ?_
          iterate 3 (refine tr_mv rfl (fun _ => rfl) ?_)
          refine tr_ma rfl (m32_of (by omega)) (by omega) rfl (fun _ => rfl) rfl rfl ?_
          rw [e1, Int.toNat_natCast, ey]
          refine tr_ms rfl (m32_of (by omega)) (by omega) rfl (fun _ => rfl) rfl rfl ?_
          rw [Int.toNat_natCast]
          iterate 1 (refine tr_mv rfl (fun _ => rfl) ?_)
          refine tr_mgr rfl (by decide) rfl ?_
          iterate 4 (refine tr_mv rfl (fun _ => rfl) ?_)
          refine tr_ms rfl (m32_of (by omega)) (by omega) rfl (fun _ => rfl) rfl rfl ?_
          rw [e1, Int.toNat_natCast]
          iterate 2 (refine tr_mv rfl (fun _ => rfl) ?_)
          have hr3 := mrow_set (mrow_set hr (j := (y :: ys).length) (by simp) hy) (j := ys.length) (by simp) hx
          have el : ((((y :: ys).reverse ++ x :: (q ++ post0)).set (y :: ys).length y).set ys.length x) = ys.reverse ++ x :: ((y :: q) ++ post0) := by
            rw [show (y :: ys).reverse ++ x :: (q ++ post0) = (ys.reverse ++ [y]) ++ x :: (q ++ post0) by simp, List.set_append_right _ _ (by simp), List.set_append_left _ _ (by simp), List.set_append_right _ _ (by simp)]
            simp
          rw [el] at hr3
          show Tr Ls N 224 43 [some (mP (some 480)), some (mI kk), some (mI (((y :: ys).length : Int) + -1)), some (mI x)] [] _ post
          rw [show (((y :: ys).length : Nat) : Int) + -1 = (ys.length : Int) by omega]
          refine ih (y :: q) x _ _ hr3 (by simp at hl ⊢; omega) (fun σ'' at' v' g1 g2 => K σ'' at' v' ?_ (((only.rf.setF (Or.inl rfl)).setF (Or.inl rfl)).tr g2))
          unfold sink
          rw [if_pos ⟨c2, by omega⟩]
          simpa using g1
theorem m224_loop2 : ∀ (rest p : List Int) (σ' : Sg) (v2 v3 : Option mV), mrow σ' (p.reverse ++ rest) → 1 ≤ p.length → p.length + rest.length < 50 → (mok 2 [some (mP (some 480)), some (mI (p.length : Int)), v2, v3] = true) → (mok 3 [some (mP (some 480)), some (mI (p.length : Int)), v2, v3] = true) → (∀ σ'', mrow σ'' (rest.foldl (fun p x => sink x p) p).reverse → only cRow σ' σ'' → post (.inl none) σ'') →
    Tr Ls N 224 33 [some (mP (some 480)), some (mI (p.length : Int)), v2, v3] [] σ' post := by
  intro rest
  induction rest with
  | nil =>
    intro p σ' v2 v3 hr hp hl m2 m3 K
    rw [List.append_nil] at hr
    have e0 : σ'.2 480 13 = (p.length : Int) := by rw [hr.1]; simp
    iterate 2 (refine tr_mv rfl (fun _ => rfl) ?_)
    refine tr_mgi rfl (by decide) (by decide) rfl ?_
    rw [e0]
    refine tr_cmp2 rfl (m32_of (by omega)) (m32_of (by omega)) (fun _ => ?_) (fun c1 => absurd (Int.le_refl _) c1)
    exact tr_ret rfl (fun _ => rfl) (K σ' hr only.rf)
  | cons x rest ih =>
    intro p σ' v2 v3 hr hp hl m2 m3 K
    have hl2 : (x :: rest).length = rest.length + 1 := rfl
    have e0 : σ'.2 480 13 = ((p.length + 1 + rest.length : Nat) : Int) := by rw [hr.1]; simp; omega
    iterate 2 (refine tr_mv rfl (fun _ => rfl) ?_)
    refine tr_mgi rfl (by decide) (by decide) rfl ?_
    rw [e0]
    refine tr_cmp2 rfl (m32_of (by omega)) (m32_of (by omega)) (fun c1 => absurd c1 (by show ¬ _ ≤ _; omega)) (fun _ => ?_)
    iterate 2 (refine tr_mv rfl (fun _ => rfl) ?_)
    show Tr Ls N 224 43 [some (mP (some 480)), some (mI (p.length : Int)), some (mI (p.length : Int)), v3] [] σ' post
    refine m224_inner (p.length : Int) rest p [] x σ' v3 (by simpa using hr) (by simp; omega) (fun σ'' at' v' g1 g2 => ?_)
    iterate 2 (refine tr_mv rfl (fun _ => rfl) ?_)
    show Tr Ls N 224 33 [some (mP (some 480)), some (mI ((p.length : Int) + 1)), some (mI at'), v'] [] σ'' post
    rw [show (p.length : Int) + 1 = ((sink x p).length : Int) by rw [sink_len]; omega]
    refine ih (sink x p) σ'' _ _ (by simpa using g1) (by rw [sink_len]; omega) (by rw [sink_len]; omega) rfl rfl (fun σ3 k1 k2 => K σ3 k1 (g2.tr k2))
theorem s_224 {ds : List Int} (hT : okB (bMo σ) (kMo σ)) (hd : σ.2 480 4 = (ds.length : Int)) (hd2 : ds.length ≤ 10) (hd3 : ∀ i, i < ds.length → σ.2 483 i = ds.getD i 0) (hok : ∀ s ∈ ds, okS (bMo σ) s) (K : ∀ σ', mrow σ' (sorted1 (ds.flatMap (apart1 (bMo σ) (kMo σ)))) → only cRow σ σ' → post (.inl none) σ') :
    Tr Ls N 224 0 [some (mP (some 480)), none, none, none] [] σ post := by
  have hb : ∀ (l : List Int), (l.flatMap (apart1 (bMo σ) (kMo σ))).length ≤ 3 * l.length := by
    intro l
    induction l with
    | nil => simp
    | cons x l ih =>
      have := apart1_len (bMo σ) (kMo σ) x
      simp only [List.flatMap_cons, List.length_append, List.length_cons]
      omega
  iterate 2 (refine tr_mv rfl (fun _ => rfl) ?_)
  refine tr_mpi rfl (Or.inl rfl) (by decide) rfl ?_
  iterate 2 (refine tr_mv rfl (fun _ => rfl) ?_)
  refine m224_loop1 (σ := σ) hT ds 0 _ [] (only.rf.setF (Or.inr ⟨rfl, rfl⟩)) ⟨rfl, fun i hi => absurd hi (Nat.not_lt_zero _), fun x hx => absurd hx List.not_mem_nil⟩ (by rw [hd]; congr 1; omega) (by omega) (fun i hi => by rw [Nat.zero_add]; exact hd3 i hi) hok (by simp) (fun σ'' g1 g2 => ?_)
  rw [List.nil_append] at g1
  have hb' := hb ds
  generalize ds.flatMap (apart1 (bMo σ) (kMo σ)) = g at *
  iterate 2 (refine tr_mv rfl (fun _ => rfl) ?_)
  show Tr Ls N 224 33 [some (mP (some 480)), some (mI 1), none, none] [] σ'' post
  cases g with
  | nil =>
    iterate 2 (refine tr_mv rfl (fun _ => rfl) ?_)
    refine tr_mgi rfl (by decide) (by decide) rfl ?_
    rw [g1.1]
    refine tr_cmp2 rfl (m32_of (by omega)) (m32_of (x := 0) ⟨by decide, by decide⟩) (fun _ => ?_) (fun c1 => absurd (show (0 : Int) ≤ 1 by decide) c1)
    exact tr_ret rfl (fun _ => rfl) (K σ'' g1 g2)
  | cons x xs =>
    simp only [List.length_cons] at hb'
    exact m224_loop2 xs [x] σ'' none none g1 (Nat.le_refl _) (by simp; omega) rfl rfl (fun σ3 k1 k2 => K σ3 k1 (g2.tr k2))
end MAPART
