/-! The class: a pin, a new edition. -/
section CPIN
variable {Ls N k pc n n' nn b c t a q kd w d p X T : Nat} {L0 : mLs} {st r as : List mV} {h h' : mH} {σ σ' σ'' : Sg} {post : tP} {x y z x' y' i i' s v m u lv : Int} {xs ys ss L M A B : List Int} {e : mE} {C : Nat → Nat → Prop} {R : Nat → Prop} {tx : List (List Int)} {en : List EnT}
theorem lastP_rget (h : ∀ j, j < A.length → 1 ≤ A.getD j 0) (hx : 1 ≤ x) : rget A ((A.length : Int) - 1) < x ↔ lastP A < x := by
  unfold lastP
  by_cases g : A.length = 0
  · rw [if_pos g, rget_out (by omega)]
    omega
  · rw [if_neg g, show (A.length : Int) - 1 = ((A.length - 1 : Nat) : Int) by omega, rget_nat (by omega)]
theorem s_144 (hA : σ.1 104 = A) (hB : σ.1 106 = B) (hp : okPins A B) (hx : in32 x) (hy : in32 y)
    (K1 : ¬ ((lastP A < x ∧ x ≤ 999) ∧ lastP B < y ∧ y ≤ 999) → post (.inr 1) σ)
    (K2 : ((lastP A < x ∧ x ≤ 999) ∧ lastP B < y ∧ y ≤ 999) → A.length = 6 → post (.inr 2) σ)
    (K3 : ((lastP A < x ∧ x ≤ 999) ∧ lastP B < y ∧ y ≤ 999) → A.length < 6 → post (.inl (some (mI ((A.length : Int) + 1)))) (setR (setR σ 104 (A ++ [x])) 106 (B ++ [y]))) :
    Tr Ls (N + 1) 144 0 [some (mP (some 2)), some (mI x), some (mI y)] [] σ post := by
  have hl6 := hp.2.1
  have hlB := hp.1
  have eA : 1 ≤ x → (rget A ((A.length : Int) - 1) < x ↔ lastP A < x) := lastP_rget (fun j hj => (hp.2.2.1 j hj).1.1)
  have eB : 1 ≤ y → (rget B ((B.length : Int) - 1) < y ↔ lastP B < y) := lastP_rget (fun j hj => (hp.2.2.1 j (by omega)).2.1)
  have pos : ∀ D : List Int, (∀ j, j < D.length → 1 ≤ D.getD j 0) → 0 ≤ lastP D := fun D h => by
    unfold lastP
    by_cases g : D.length = 0
    · rw [if_pos g]; omega
    · rw [if_neg g]
      have := h (D.length - 1) (by omega)
      omega
  have pA := pos A (fun j hj => (hp.2.2.1 j hj).1.1)
  have pB := pos B (fun j hj => (hp.2.2.1 j (by omega)).2.1)
  iterate 1 (refine tr_mv rfl (fun _ => rfl) ?_)
  refine tr_stat rfl rfl rfl (s_176 hx ?_)
  first | refine tr_ib rfl (fun c1 => ?_) (fun c1 => ?_) | refine tr_ibn rfl (fun c1 => ?_) (fun c1 => ?_)
  · exact tr_throw rfl (K1 (fun g => c1 (by omega)))
  · iterate 1 (refine tr_mv rfl (fun _ => rfl) ?_)
    refine tr_stat rfl rfl rfl (s_176 hy ?_)
    first | refine tr_ib rfl (fun c2 => ?_) (fun c2 => ?_) | refine tr_ibn rfl (fun c2 => ?_) (fun c2 => ?_)
    · exact tr_throw rfl (K1 (fun g => c2 (by omega)))
    · repeat (first | refine tr_gr rfl ⟨by decide, rfl⟩ (by decide) rfl ?_ | refine tr_gi rfl (by decide) ⟨by decide, rfl⟩ (by decide) rfl rfl ?_ | refine tr_gr rfl (by assumption) (by decide) (by assumption) ?_ | refine tr_gi rfl (by decide) (by assumption) (by decide) (by assumption) (by assumption) ?_ | (refine tr_rem ?_ ?_ rfl ?_; omega; omega) | (refine tr_div ?_ ?_ rfl ?_; omega; omega) | refine tr_mv rfl (fun _ => rfl) ?_ | refine tr_ia2 (m32_of (by omega)) (by omega) rfl (fun _ => rfl) rfl (by decide) (by decide) (fun _ => rfl) ?_ | refine tr_size (by assumption) rfl rfl ?_ | refine tr_at2 (by assumption) (m32_of (by omega)) rfl rfl ?_)
      refine tr_vc (q := 103) rfl ⟨by decide, by decide +kernel⟩ rfl rfl rfl (s_88 hx hy ?_)
      rw [hA, hB]
      first | refine tr_ib rfl (fun c3 => ?_) (fun c3 => ?_) | refine tr_ibn rfl (fun c3 => ?_) (fun c3 => ?_)
      · have hok : (lastP A < x ∧ x ≤ 999) ∧ lastP B < y ∧ y ≤ 999 := ⟨⟨(eA c1.1).mp c3.1, c1.2⟩, (eB c2.1).mp c3.2, c2.2⟩
        repeat (first | refine tr_gr rfl ⟨by decide, rfl⟩ (by decide) rfl ?_ | refine tr_gi rfl (by decide) ⟨by decide, rfl⟩ (by decide) rfl rfl ?_ | refine tr_gr rfl (by assumption) (by decide) (by assumption) ?_ | refine tr_gi rfl (by decide) (by assumption) (by decide) (by assumption) (by assumption) ?_ | (refine tr_rem ?_ ?_ rfl ?_; omega; omega) | (refine tr_div ?_ ?_ rfl ?_; omega; omega) | refine tr_mv rfl (fun _ => rfl) ?_ | refine tr_ia2 (m32_of (by omega)) (by omega) rfl (fun _ => rfl) rfl (by decide) (by decide) (fun _ => rfl) ?_ | refine tr_size (by assumption) rfl rfl ?_ | refine tr_at2 (by assumption) (m32_of (by omega)) rfl rfl ?_)
        refine tr_vc (q := 103) rfl ⟨by decide, by decide +kernel⟩ rfl rfl rfl (s_87 ?_)
        rw [hA]
        iterate 1 (refine tr_mv rfl (fun _ => rfl) ?_)
        refine tr_cmp2 rfl (m32_of (by omega)) (m32_of (by omega)) (fun c4 => ?_) (fun c4 => ?_)
        · have c5 : (A.length : Int) < 6 := c4
          repeat (first | refine tr_gr rfl ⟨by decide, rfl⟩ (by decide) rfl ?_ | refine tr_gi rfl (by decide) ⟨by decide, rfl⟩ (by decide) rfl rfl ?_ | refine tr_gr rfl (by assumption) (by decide) (by assumption) ?_ | refine tr_gi rfl (by decide) (by assumption) (by decide) (by assumption) (by assumption) ?_ | (refine tr_rem ?_ ?_ rfl ?_; omega; omega) | (refine tr_div ?_ ?_ rfl ?_; omega; omega) | refine tr_mv rfl (fun _ => rfl) ?_ | refine tr_ia2 (m32_of (by omega)) (by omega) rfl (fun _ => rfl) rfl (by decide) (by decide) (fun _ => rfl) ?_ | refine tr_size (by assumption) rfl rfl ?_ | refine tr_at2 (by assumption) (m32_of (by omega)) rfl rfl ?_)
          refine tr_vc (q := 103) rfl ⟨by decide, by decide +kernel⟩ rfl rfl rfl (s_89 hx hy (by rw [hA, hB]; omega) ?_)
          rw [hA, hB]
          repeat (first | refine tr_gr rfl ⟨by decide, rfl⟩ (by decide) rfl ?_ | refine tr_gi rfl (by decide) ⟨by decide, rfl⟩ (by decide) rfl rfl ?_ | refine tr_gr rfl (by assumption) (by decide) (by assumption) ?_ | refine tr_gi rfl (by decide) (by assumption) (by decide) (by assumption) (by assumption) ?_ | (refine tr_rem ?_ ?_ rfl ?_; omega; omega) | (refine tr_div ?_ ?_ rfl ?_; omega; omega) | refine tr_mv rfl (fun _ => rfl) ?_ | refine tr_ia2 (m32_of (by omega)) (by omega) rfl (fun _ => rfl) rfl (by decide) (by decide) (fun _ => rfl) ?_ | refine tr_size (by assumption) rfl rfl ?_ | refine tr_at2 (by assumption) (m32_of (by omega)) rfl rfl ?_)
          refine tr_vc (q := 103) rfl ⟨by decide, by decide +kernel⟩ rfl rfl rfl (s_87 ?_)
          refine tr_ri rfl rfl ?_
          rw [setR_ne _ _ (by decide), setR_same, show ((A ++ [x]).length : Int) = (A.length : Int) + 1 by simp]
          exact K3 hok (by omega)
        · have c5 : ¬ (A.length : Int) < 6 := c4
          exact tr_throw rfl (K2 hok (by omega))
      · exact tr_throw rfl (K1 (fun g => c3 ⟨(eA c1.1).mpr g.1.1, (eB c2.1).mpr g.2.1⟩))
theorem cEn.step {P S : List EnT} {u w : EnT} (h : cEn σ (P ++ u :: S)) (hl : (P ++ u :: S).length ≤ 24) (ho : chg (fun a => a = (360 + 5 * P.length) + 1 ∨ a = (360 + 5 * P.length) + 3) noC σ σ') (hf : enT w = enT u ∧ enP w = enP u ∧ enS w = enS u ∧ enK w = enK u ∧ enA w = enA u ∧ enX w = enX u ∧ enO w = enO u) (h1 : σ'.1 ((360 + 5 * P.length) + 1) = enL w) : cEn σ' (P ++ w :: S) := by
  obtain ⟨f1, f2, f3, f4, f5, f6, f7⟩ := hf
  have hlen : (P ++ w :: S).length = (P ++ u :: S).length := by simp
  have e2 : ∀ q i, σ'.2 q i = σ.2 q i := fun q i => ho.2 _ _ (fun g => g)
  refine ⟨?_, fun i hi => ?_, fun i hi => ?_⟩
  · rw [hlen, e2]
    exact h.1
  · rw [hlen] at hi
    rw [e2, e2, e2]
    have k := h.2.1 i hi
    by_cases g : i = P.length
    · subst g
      rw [mid_at] at k ⊢
      rw [f1, f2, f3]
      exact k
    · rw [mid_get (u := w) (w := u) g]
      exact k
  · rw [e2, e2, e2, e2]
    obtain ⟨k1, k2, k3, k4, k5⟩ := h.2.2 i hi
    by_cases g : i = P.length
    · subst g
      rw [mid_at] at k1 k2 k3 k4 ⊢
      rw [f4, f5, f6, f7]
      exact ⟨k1, k2, k3, k4, h1⟩
    · rw [mid_get (u := w) (w := u) g]
      exact ⟨k1, k2, k3, k4, (ho.1 _ (by omega)).trans k5⟩
end CPIN
