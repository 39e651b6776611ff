/-! Pins: the model's telling of one, and the edition. -/
section PINM
variable {Ls N k pc n n' nn b c t a q kd w d p X T : Nat} {L0 : mLs} {st r as : List mV} {h h' : mH} {σ σ' σ'' : Sg} {post : tP} {x y z x' y' i i' s v m u lv : Int} {xs ys ss L M P A B : List Int} {e : mE} {C : Nat → Nat → Prop} {R : Nat → Prop} {tx : List (List Int)} {en : List EnT}
/-- the last pin's numbers, or none -/
def lastP (A : List Int) : Int := if A.length = 0 then 0 else A.getD (A.length - 1) 0
theorem s_319 (hc : σ.2 480 67 = (A.length : Int)) (hA : mseg σ 531 0 A) (hB : mseg σ 532 0 B) (hp : okPins A B) (hx : in32 x) (hy : in32 y)
    (K1 : ¬ ((lastP A < x ∧ x ≤ 999) ∧ lastP B < y ∧ y ≤ 999) → post (.inl (some (mI 0))) (setF σ 480 0 1))
    (K2 : ((lastP A < x ∧ x ≤ 999) ∧ lastP B < y ∧ y ≤ 999) → A.length = 6 → post (.inl (some (mI 0))) (setF σ 480 0 2))
    (K3 : ∀ σ', ((lastP A < x ∧ x ≤ 999) ∧ lastP B < y ∧ y ≤ 999) → A.length < 6 → σ'.2 480 67 = ((A ++ [x]).length : Int) → mseg σ' 531 0 (A ++ [x]) → mseg σ' 532 0 (B ++ [y]) → only (fun q i => q = 531 ∨ q = 532 ∨ (q = 480 ∧ (i = 0 ∨ i = 67))) σ σ' → σ'.2 480 0 = 0 → post (.inl (some (mI ((A.length : Int) + 1)))) σ') :
    Tr Ls N 319 0 [some (mP (some 480)), some (mI x), some (mI y), none, none, none] [] σ post := by
  have hl6 := hp.2.1
  have hlB := hp.1
  have gA : ∀ j, j < A.length → σ.2 531 j = A.getD j 0 := fun j hj => by have := hA j hj; rwa [Nat.zero_add] at this
  have gB : ∀ j, j < A.length → σ.2 532 j = B.getD j 0 := fun j hj => by have := hB j (by omega); rwa [Nat.zero_add] at this
  have t49 : ∀ v3, Tr Ls N 319 49 [some (mP (some 480)), some (mI x), some (mI y), some (mI (lastP A + 1)), v3, none] [mI (lastP B + 1)] σ post := by
    intro v3
    have rA : 0 ≤ lastP A ∧ lastP A ≤ 999 := by
      unfold lastP
      by_cases g : A.length = 0
      · rw [if_pos g]; omega
      · rw [if_neg g]
        have := hp.2.2.1 (A.length - 1) (by omega)
        omega
    have rB : 0 ≤ lastP B ∧ lastP B ≤ 999 := by
      unfold lastP
      by_cases g : B.length = 0
      · rw [if_pos g]; omega
      · rw [if_neg g]
        have := hp.2.2.1 (B.length - 1) (by omega)
        omega
    have bad : ¬ ((lastP A < x ∧ x ≤ 999) ∧ lastP B < y ∧ y ≤ 999) → Tr Ls N 319 79 [some (mP (some 480)), some (mI x), some (mI y), some (mI (lastP A + 1)), some (mI (lastP B + 1)), none] [mI 0] σ post := by
      intro g
      repeat (refine tr_mv rfl (fun _ => rfl) ?_)
      refine tr_vc (q := 480) rfl isO_480 rfl rfl rfl (s_210 (by decide) ?_)
      rw [b2, if_neg (by decide)]
      repeat (refine tr_mv rfl (fun _ => rfl) ?_)
      exact tr_ri rfl rfl (K1 g)
    iterate 4 (refine tr_mv rfl (fun _ => rfl) ?_)
    refine tr_stat rfl rfl rfl (s_211 hx (by omega) (by decide) ?_)
    first | refine tr_ib rfl (fun c1 => ?_) (fun c1 => ?_) | refine tr_ibn rfl (fun c1 => ?_) (fun c1 => ?_)
    · iterate 1 (refine tr_mv rfl (fun _ => rfl) ?_)
      exact bad (fun g => c1 (by omega))
    · iterate 3 (refine tr_mv rfl (fun _ => rfl) ?_)
      refine tr_stat rfl rfl rfl (s_211 hy (by omega) (by decide) ?_)
      first | refine tr_ib rfl (fun c2 => ?_) (fun c2 => ?_) | refine tr_ibn rfl (fun c2 => ?_) (fun c2 => ?_)
      · iterate 1 (refine tr_mv rfl (fun _ => rfl) ?_)
        exact bad (fun g => c2 (by omega))
      · have hB2 : (lastP A < x ∧ x ≤ 999) ∧ lastP B < y ∧ y ≤ 999 := by omega
        repeat (first | refine tr_mgr rfl (by decide) rfl ?_ | refine tr_mgi rfl (by decide) (by decide) rfl ?_ | refine tr_mv rfl (fun _ => rfl) ?_)
        rw [hc]
        refine tr_cmp2 rfl (m32_of (by omega)) (m32_of (by omega)) (fun c3 => ?_) (fun c3 => ?_)
        · have c4 : ¬ (A.length : Int) = 6 := c3
          iterate 1 (refine tr_mv rfl (fun _ => rfl) ?_)
          refine tr_vc (q := 480) rfl isO_480 rfl rfl rfl (s_210 (by decide) ?_)
          rw [b2, if_pos rfl]
          repeat (first | refine tr_mgr rfl (by decide) rfl ?_ | refine tr_mgi rfl (by decide) (by decide) rfl ?_ | refine tr_mv rfl (fun _ => rfl) ?_)
          rw [setF_ne _ _ (by omega), hc]
          refine tr_msn (j := 0 + A.length) rfl (by omega) (by omega) rfl (fun _ => rfl) rfl rfl rfl ?_
          repeat (first | refine tr_mgr rfl (by decide) rfl ?_ | refine tr_mgi rfl (by decide) (by decide) rfl ?_ | refine tr_mv rfl (fun _ => rfl) ?_)
          rw [setF_ne _ _ (by omega), setF_ne _ _ (by omega), hc]
          refine tr_msn (j := 0 + B.length) rfl (by omega) (by omega) rfl (fun _ => rfl) rfl rfl rfl ?_
          repeat (first | refine tr_mgr rfl (by decide) rfl ?_ | refine tr_mgi rfl (by decide) (by decide) rfl ?_ | refine tr_mv rfl (fun _ => rfl) ?_)
          rw [setF_ne _ _ (by omega), setF_ne _ _ (by omega), setF_ne _ _ (by omega), hc]
          refine tr_mpi rfl (Or.inl rfl) (by decide) rfl ?_
          repeat (first | refine tr_mgr rfl (by decide) rfl ?_ | refine tr_mgi rfl (by decide) (by decide) rfl ?_ | refine tr_mv rfl (fun _ => rfl) ?_)
          rw [setF_same]
          refine tr_ri rfl rfl (K3 _ hB2 (by omega) ?_ ?_ ?_ ?_ ?_)
          · rw [setF_same]
            simp
          · exact (((hA.keep (σ' := setF σ 480 0 0) (fun i _ _ => setF_ne _ _ (by omega))).push (v := x)).keep (fun i _ _ => (setF_ne _ _ (by omega)).trans (setF_ne _ _ (by omega))))
          · exact (((hB.keep (σ' := setF (setF σ 480 0 0) 531 (0 + A.length) x) (fun i _ _ => (setF_ne _ _ (by omega)).trans (setF_ne _ _ (by omega)))).push (v := y)).keep (fun i _ _ => setF_ne _ _ (by omega)))
          · exact (((only.rf.setF (Or.inr (Or.inr ⟨rfl, Or.inl rfl⟩))).setF (Or.inl rfl)).setF (Or.inr (Or.inl rfl))).setF (Or.inr (Or.inr ⟨rfl, Or.inr rfl⟩))
          · rw [setF_ne _ _ (by omega), setF_ne _ _ (by omega), setF_ne _ _ (by omega), setF_same]
        · have c4 : (A.length : Int) = 6 := Decidable.of_not_not c3
          iterate 2 (refine tr_mv rfl (fun _ => rfl) ?_)
          refine tr_vc (q := 480) rfl isO_480 rfl rfl rfl (s_210 (by decide) ?_)
          rw [b2, if_neg (by decide)]
          repeat (refine tr_mv rfl (fun _ => rfl) ?_)
          exact tr_ri rfl rfl (K2 hB2 (by omega))
  have second : ∀ w, w = lastP A + 1 → Tr Ls N 319 25 [some (mP (some 480)), some (mI x), some (mI y), some (mI w), none, none] [] σ post := by
    intro w ew
    rw [ew]
    repeat (first | refine tr_mgr rfl (by decide) rfl ?_ | refine tr_mgi rfl (by decide) (by decide) rfl ?_ | refine tr_mv rfl (fun _ => rfl) ?_)
    rw [hc]
    refine tr_if2 rfl (m32_of (by omega)) (fun c1 => ?_) (fun c1 => ?_)
    · have c2 : ¬ (A.length : Int) = 0 := c1
      have eB : lastP B = B.getD (A.length - 1) 0 := by unfold lastP; rw [if_neg (by omega), hlB]
      repeat (first | refine tr_mgr rfl (by decide) rfl ?_ | refine tr_mgi rfl (by decide) (by decide) rfl ?_ | refine tr_mv rfl (fun _ => rfl) ?_)
      rw [hc]
      refine tr_man (j := A.length - 1) rfl (by omega) (by omega) rfl (fun _ => rfl) rfl rfl rfl ?_
      rw [gB _ (by omega)]
      iterate 2 (refine tr_mv rfl (fun _ => rfl) ?_)
      rw [← eB]
      exact t49 _
    · have c2 : (A.length : Int) = 0 := Decidable.of_not_not c1
      have eB : lastP B + 1 = 1 := by unfold lastP; rw [if_pos (by omega)]; rfl
      have := t49 none
      rw [eB] at this
      iterate 2 (refine tr_mv rfl (fun _ => rfl) ?_)
      exact this
  repeat (first | refine tr_mgr rfl (by decide) rfl ?_ | refine tr_mgi rfl (by decide) (by decide) rfl ?_ | refine tr_mv rfl (fun _ => rfl) ?_)
  rw [hc]
  refine tr_if2 rfl (m32_of (by omega)) (fun c1 => ?_) (fun c1 => ?_)
  · have c2 : ¬ (A.length : Int) = 0 := c1
    have eA : lastP A = A.getD (A.length - 1) 0 := by unfold lastP; rw [if_neg (by omega)]
    repeat (first | refine tr_mgr rfl (by decide) rfl ?_ | refine tr_mgi rfl (by decide) (by decide) rfl ?_ | refine tr_mv rfl (fun _ => rfl) ?_)
    rw [hc]
    refine tr_man (j := A.length - 1) rfl (by omega) (by omega) rfl (fun _ => rfl) rfl rfl rfl ?_
    rw [gA _ (by omega)]
    iterate 3 (refine tr_mv rfl (fun _ => rfl) ?_)
    exact second _ (by rw [eA])
  · have c2 : (A.length : Int) = 0 := Decidable.of_not_not c1
    iterate 3 (refine tr_mv rfl (fun _ => rfl) ?_)
    exact second 1 (by unfold lastP; rw [if_pos (by omega)]; rfl)
end PINM
