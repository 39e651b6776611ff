/-! Locators: one more. -/
section ENT2
variable {Ls N k pc n n' nn b c t a q kd w d p X T : Nat} {L0 : mLs} {st r as : List mV} {h h' : mH} {σ σ' σ'' : Sg} {post : tP} {x y z x' y' i i' s v m u lv : Int} {xs ys ss L M P : List Int} {e : mE} {C : Nat → Nat → Prop} {R : Nat → Prop} {tx : List (List Int)} {en : List EnT}
theorem rk_in3 {y : Int} (h : 0 ≤ y ∧ y < 3) : 0 ≤ rk y ∧ rk y ≤ 2 := by
  have e : y = 0 ∨ y = 1 ∨ y = 2 := by omega
  rcases e with rfl | rfl | rfl <;> decide
theorem s_64 (ht : isE t) (hx : 1 ≤ x ∧ x < 1000) (hy : 0 ≤ y ∧ y < 3) (K : post (.inl (some (mI (b2 (1000 * rk y + x ∈ σ.1 (t + 1)))))) σ) : Tr Ls N 64 0 [some (mP (some t)), some (mI x), some (mI y)] [] σ post := by
  have hr := rk_in3 hy
  iterate 1 (refine tr_mv rfl (fun _ => rfl) ?_)
  refine tr_gr rfl (E_O ht) (by decide) (E_p5 ht) ?_
  iterate 2 (refine tr_mv rfl (fun _ => rfl) ?_)
  refine tr_stat rfl rfl rfl (s_61 (by omega) ?_)
  refine tr_vc (q := t + 1) rfl ⟨(E_r5 ht).1, (E_r5 ht).2.1⟩ rfl rfl rfl (s_104 (E_r5 ht) (by omega) ?_)
  by_cases g : 1000 * rk y + x ∈ σ.1 (t + 1)
  · rw [b2, if_pos g] at K ⊢
    exact tr_reti rfl (Or.inr (Or.inr rfl)) K
  · rw [b2, if_neg g] at K ⊢
    exact tr_reti rfl (Or.inr (Or.inl rfl)) K
theorem s_65 (ht : isE t) (hx : 1 ≤ x ∧ x < 1000) (hy : 0 ≤ y ∧ y < 3) (hl : (σ.1 (t + 1)).length < 10) (hs : ∀ z ∈ σ.1 (t + 1), in32 z)
    (K : ∀ pre suf, σ.1 (t + 1) = pre ++ suf → (∀ z ∈ suf, 1000 * rk y + x < z) → (∀ p l, pre = p ++ [l] → l ≤ 1000 * rk y + x) → post (.inl none) (setR σ (t + 1) (pre ++ (1000 * rk y + x) :: suf))) :
    Tr Ls N 65 0 [some (mP (some t)), some (mI x), some (mI y), none, none] [] σ post := by
  have hr := rk_in3 hy
  iterate 2 (refine tr_mv rfl (fun _ => rfl) ?_)
  refine tr_stat rfl rfl rfl (s_61 (by omega) ?_)
  obtain ⟨cc, hc⟩ : ∃ cc, cc = 1000 * rk y + x := ⟨_, rfl⟩
  rw [← hc] at K ⊢
  have fin : ∀ pre suf, σ.1 (t + 1) = pre ++ suf → (∀ z ∈ suf, cc < z) → (∀ p l, pre = p ++ [l] → l ≤ cc) → Tr Ls N 65 41 [some (mP (some t)), some (mI x), some (mI y), some (mI cc), some (mI (pre.length : Int))] [] σ post := by
    intro pre suf e h1 h2
    have hln : (pre ++ suf).length < 10 := by rw [← e]; exact hl
    have hln2 := hln
    rw [List.length_append] at hln2
    iterate 1 (refine tr_mv rfl (fun _ => rfl) ?_)
    refine tr_gr rfl (E_O ht) (by decide) (E_p5 ht) ?_
    iterate 2 (refine tr_mv rfl (fun _ => rfl) ?_)
    refine tr_insert (E_r5 ht) (by omega) rfl rfl ?_
    rw [m32_of (show in32 (pre.length : Int) by omega), rins, e, if_pos ⟨by omega, by rw [List.length_append]; omega, hln⟩, Int.toNat_natCast, insIdx_mid]
    exact tr_ret rfl (fun _ => rfl) (K pre suf e h1 h2)
  have loop : ∀ (r suf : List Int), σ.1 (t + 1) = r.reverse ++ suf → (∀ z ∈ suf, cc < z) → Tr Ls N 65 15 [some (mP (some t)), some (mI x), some (mI y), some (mI cc), some (mI (r.length : Int))] [] σ post := by
    intro r
    induction r with
    | nil =>
      intro suf e h1
      show Tr Ls N 65 15 [some (mP (some t)), some (mI x), some (mI y), some (mI cc), some (mI 0)] [] σ post
      iterate 2 (refine tr_mv rfl (fun _ => rfl) ?_)
      exact fin [] suf e h1 (fun p l g => by cases p <;> exact absurd g (by simp))
    | cons l r ih =>
      intro suf e h1
      have e2 : σ.1 (t + 1) = r.reverse ++ l :: suf := by rw [e]; simp
      have hlen := congrArg List.length e2
      rw [List.length_append, List.length_reverse, List.length_cons] at hlen
      have hli := hs l (by rw [e2]; simp)
      rw [show ((l :: r).length : Int) = (r.length : Int) + 1 by simp]
      iterate 1 (refine tr_mv rfl (fun _ => rfl) ?_)
      refine tr_if2 rfl (m32_of (by omega)) (fun c1 => ?_) (fun c1 => ?_)
      · exact absurd c1 (by show ¬ _ ≤ (0 : Int); omega)
      · iterate 1 (refine tr_mv rfl (fun _ => rfl) ?_)
        refine tr_gr rfl (E_O ht) (by decide) (E_p5 ht) ?_
        iterate 3 (refine tr_mv rfl (fun _ => rfl) ?_)
        rw [show (r.length : Int) + 1 - 1 = (r.length : Int) by omega]
        refine tr_at2 (E_r5 ht) (m32_of (by omega)) rfl rfl ?_
        rw [show rget (σ.1 (t + 1)) (r.length : Int) = l by have g := rget_app e2; rw [List.length_reverse] at g; exact g]
        iterate 1 (refine tr_mv rfl (fun _ => rfl) ?_)
        refine tr_cmp2 rfl (m32_of (by omega)) (m32_of (by omega)) (fun c2 => ?_) (fun c2 => ?_)
        · have := fin (l :: r).reverse suf e h1 (fun p l' g => by
            have g2 : r.reverse ++ [l] = p ++ [l'] := by simpa using g
            have g3 := List.append_inj_right' g2 rfl
            injection g3 with g4
            rw [← g4]
            exact c2)
          rw [List.length_reverse] at this
          exact this
        · iterate 2 (refine tr_mv rfl (fun _ => rfl) ?_)
          show Tr Ls N 65 15 [some (mP (some t)), some (mI x), some (mI y), some (mI cc), some (mI ((r.length : Int) + 1 + -1))] [] σ post
          rw [show (r.length : Int) + 1 + -1 = (r.length : Int) by omega]
          refine ih (l :: suf) e2 (fun z hz => ?_)
          rcases List.mem_cons.mp hz with g | g
          · rw [g]
            exact Int.not_le.mp c2
          · exact h1 z g
  iterate 2 (refine tr_mv rfl (fun _ => rfl) ?_)
  refine tr_gr rfl (E_O ht) (by decide) (E_p5 ht) ?_
  refine tr_size (E_r5 ht) rfl rfl ?_
  iterate 1 (refine tr_mv rfl (fun _ => rfl) ?_)
  have := loop (σ.1 (t + 1)).reverse [] (by simp) (fun z hz => absurd hz List.not_mem_nil)
  rw [List.length_reverse] at this
  exact this
theorem s_58 (ht : isE t) (K : post (.inl none) (setF (setF σ t 3 x) t 4 y)) : Tr Ls N 58 0 [some (mP (some t)), some (mI x), some (mI y)] [] σ post := by
  iterate 2 (refine tr_mv rfl (fun _ => rfl) ?_)
  refine tr_pi rfl (Or.inl rfl) (E_O ht) (by decide) (E_c ht) (E_n ht).2.2.2.1 ?_
  iterate 2 (refine tr_mv rfl (fun _ => rfl) ?_)
  refine tr_pi rfl (Or.inl rfl) (E_O ht) (by decide) (E_c ht) (E_n ht).2.2.2.2.1 ?_
  exact tr_ret rfl (fun _ => rfl) K
theorem s_49 (ht : isE t) (K : post (.inl none) (setF (setF (setF σ t 0 x) t 1 y) t 2 z)) : Tr Ls N 49 0 [some (mP (some t)), some (mI x), some (mI y), some (mI z)] [] σ post := by
  iterate 2 (refine tr_mv rfl (fun _ => rfl) ?_)
  refine tr_pi rfl (Or.inl rfl) (E_O ht) (by decide) (E_c ht) (E_n ht).1 ?_
  iterate 2 (refine tr_mv rfl (fun _ => rfl) ?_)
  refine tr_pi rfl (Or.inl rfl) (E_O ht) (by decide) (E_c ht) (E_n ht).2.1 ?_
  iterate 2 (refine tr_mv rfl (fun _ => rfl) ?_)
  refine tr_pi rfl (Or.inl rfl) (E_O ht) (by decide) (E_c ht) (E_n ht).2.2.1 ?_
  exact tr_ret rfl (fun _ => rfl) K
/-! the model's -/
end ENT2
