/-! Pins: the methods. -/
section MOVS
variable {Ls N k pc n n' nn b c t a q kd w d p X T : Nat} {L0 : mLs} {st r as : List mV} {h h' : mH} {σ σ' σ'' : Sg} {post : tP} {x y z x' y' i i' s v m u lv : Int} {xs ys ss L M P A B : List Int} {e : mE} {C : Nat → Nat → Prop} {R : Nat → Prop} {tx : List (List Int)} {en : List EnT}
theorem mvF_j {j : Nat} (h1 : lastLe x 0 (-1) A = (j : Int)) : mvF A B x = if A.getD (A.length - 1) 0 < x then -1 else if j + 1 = A.length then B.getD j 0 else B.getD j 0 + (x - A.getD j 0) * (B.getD (j + 1) 0 - B.getD j 0) / (A.getD (j + 1) 0 - A.getD j 0) := by
  unfold mvF
  rw [h1, Int.toNat_natCast]
  by_cases c : A.getD (A.length - 1) 0 < x
  · rw [if_pos (Or.inr c), if_pos c]
  · rw [if_neg (fun g => g.elim (fun g => by omega) c), if_neg c]
    by_cases c2 : j + 1 = A.length
    · rw [if_pos (by omega), if_pos c2]
    · rw [if_neg (by omega), if_neg c2]
theorem mvF_no (h1 : lastLe x 0 (-1) A = -1) : mvF A B x = -1 := by
  unfold mvF
  rw [if_pos (Or.inl h1)]
theorem rget_out (h : ¬ (0 ≤ i ∧ i < (xs.length : Int))) : rget xs i = -1 := by
  unfold rget
  rw [if_neg h]
theorem s_91 (hA : σ.1 104 = A) (hB : σ.1 106 = B) (hp : okPins A B) (hx : 0 ≤ x ∧ x < 1000) (K : post (.inl (some (mI (mvF A B x)))) σ) : Tr Ls N 91 0 [some (mP (some 103)), some (mI x), none, none, none, none] [] σ post := by
  have hl6 := hp.2.1
  have hlB := hp.1
  have mono : ∀ a b, a ≤ b → b < A.length → A.getD a 0 ≤ A.getD b 0 := fun a b hab hb => by
    have := (okPins.mono hp (b - a) a (by omega)).1
    rw [show a + (b - a) = b by omega] at this
    exact this
  have t39 : ∀ v3, Tr Ls N 91 39 [some (mP (some 103)), some (mI x), some (mI (lastLe x 0 (-1) A)), v3, none, none] [] σ post := by
    intro v3
    rcases lastLe_of x A with ⟨h1, _⟩ | ⟨j, h1, h2, h3, h4⟩
    · rw [h1]
      rw [mvF_no h1] at K
      repeat (first | refine tr_gr rfl ⟨by decide, rfl⟩ (by decide) rfl ?_ | refine tr_gi rfl (by decide) ⟨by decide, rfl⟩ (by decide) rfl rfl ?_ | refine tr_gr rfl (by assumption) (by decide) (by assumption) ?_ | refine tr_gi rfl (by decide) (by assumption) (by decide) (by assumption) (by assumption) ?_ | (refine tr_rem ?_ ?_ rfl ?_; omega; omega) | (refine tr_div ?_ ?_ rfl ?_; omega; omega) | refine tr_mv rfl (fun _ => rfl) ?_ | refine tr_ia2 (m32_of (by omega)) (by omega) rfl (fun _ => rfl) rfl (by decide) (by decide) (fun _ => rfl) ?_ | refine tr_size (by assumption) rfl rfl ?_ | refine tr_at2 (by assumption) (m32_of (by omega)) rfl rfl ?_)
      refine tr_at2 r_104 (i' := -1) (by decide) rfl rfl ?_
      rw [hA, rget_out (by omega)]
      repeat (first | refine tr_gr rfl ⟨by decide, rfl⟩ (by decide) rfl ?_ | refine tr_gi rfl (by decide) ⟨by decide, rfl⟩ (by decide) rfl rfl ?_ | refine tr_gr rfl (by assumption) (by decide) (by assumption) ?_ | refine tr_gi rfl (by decide) (by assumption) (by decide) (by assumption) (by assumption) ?_ | (refine tr_rem ?_ ?_ rfl ?_; omega; omega) | (refine tr_div ?_ ?_ rfl ?_; omega; omega) | refine tr_mv rfl (fun _ => rfl) ?_ | refine tr_ia2 (m32_of (by omega)) (by omega) rfl (fun _ => rfl) rfl (by decide) (by decide) (fun _ => rfl) ?_ | refine tr_size (by assumption) rfl rfl ?_ | refine tr_at2 (by assumption) (m32_of (by omega)) rfl rfl ?_)
      refine tr_at2 r_106 (i' := -1) (by decide) rfl rfl ?_
      rw [hB, rget_out (by omega)]
      exact tr_ri rfl rfl K
    · rw [h1]
      have q1 := hp.2.2.1 j h2
      rw [mvF_j h1] at K
      repeat (first | refine tr_gr rfl ⟨by decide, rfl⟩ (by decide) rfl ?_ | refine tr_gi rfl (by decide) ⟨by decide, rfl⟩ (by decide) rfl rfl ?_ | refine tr_gr rfl (by assumption) (by decide) (by assumption) ?_ | refine tr_gi rfl (by decide) (by assumption) (by decide) (by assumption) (by assumption) ?_ | (refine tr_rem ?_ ?_ rfl ?_; omega; omega) | (refine tr_div ?_ ?_ rfl ?_; omega; omega) | refine tr_mv rfl (fun _ => rfl) ?_ | refine tr_ia2 (m32_of (by omega)) (by omega) rfl (fun _ => rfl) rfl (by decide) (by decide) (fun _ => rfl) ?_ | refine tr_size (by assumption) rfl rfl ?_ | refine tr_at2 (by assumption) (m32_of (by omega)) rfl rfl ?_)
      refine tr_at2 r_104 (i' := (j : Int)) (m32_of (by omega)) rfl rfl ?_
      rw [hA, rget_nat h2]
      iterate 4 (refine tr_mv rfl (fun _ => rfl) ?_)
      refine tr_cmp2 rfl (m32_of (by omega)) (m32_of (by omega)) (fun c1 => ?_) (fun c1 => ?_)
      · exact absurd c1 (by show ¬ _ = (-1 : Int); omega)
      · iterate 1 (refine tr_mv rfl (fun _ => rfl) ?_)
        refine tr_if2 rfl (m32_of (by omega)) (fun c2 => ?_) (fun c2 => ?_)
        · have c3 : ¬ x - A.getD j 0 = 0 := c2
          repeat (first | refine tr_gr rfl ⟨by decide, rfl⟩ (by decide) rfl ?_ | refine tr_gi rfl (by decide) ⟨by decide, rfl⟩ (by decide) rfl rfl ?_ | refine tr_gr rfl (by assumption) (by decide) (by assumption) ?_ | refine tr_gi rfl (by decide) (by assumption) (by decide) (by assumption) (by assumption) ?_ | (refine tr_rem ?_ ?_ rfl ?_; omega; omega) | (refine tr_div ?_ ?_ rfl ?_; omega; omega) | refine tr_mv rfl (fun _ => rfl) ?_ | refine tr_ia2 (m32_of (by omega)) (by omega) rfl (fun _ => rfl) rfl (by decide) (by decide) (fun _ => rfl) ?_ | refine tr_size (by assumption) rfl rfl ?_ | refine tr_at2 (by assumption) (m32_of (by omega)) rfl rfl ?_)
          refine tr_at2 r_104 (i' := ((j + 1 : Nat) : Int)) (m32_of (by omega)) rfl rfl ?_
          rw [hA]
          repeat (first | refine tr_gr rfl ⟨by decide, rfl⟩ (by decide) rfl ?_ | refine tr_gi rfl (by decide) ⟨by decide, rfl⟩ (by decide) rfl rfl ?_ | refine tr_gr rfl (by assumption) (by decide) (by assumption) ?_ | refine tr_gi rfl (by decide) (by assumption) (by decide) (by assumption) (by assumption) ?_ | (refine tr_rem ?_ ?_ rfl ?_; omega; omega) | (refine tr_div ?_ ?_ rfl ?_; omega; omega) | refine tr_mv rfl (fun _ => rfl) ?_ | refine tr_ia2 (m32_of (by omega)) (by omega) rfl (fun _ => rfl) rfl (by decide) (by decide) (fun _ => rfl) ?_ | refine tr_size (by assumption) rfl rfl ?_ | refine tr_at2 (by assumption) (m32_of (by omega)) rfl rfl ?_)
          refine tr_at2 r_104 (i' := (j : Int)) (m32_of (by omega)) rfl rfl ?_
          rw [hA, rget_nat h2]
          repeat (first | refine tr_gr rfl ⟨by decide, rfl⟩ (by decide) rfl ?_ | refine tr_gi rfl (by decide) ⟨by decide, rfl⟩ (by decide) rfl rfl ?_ | refine tr_gr rfl (by assumption) (by decide) (by assumption) ?_ | refine tr_gi rfl (by decide) (by assumption) (by decide) (by assumption) (by assumption) ?_ | (refine tr_rem ?_ ?_ rfl ?_; omega; omega) | (refine tr_div ?_ ?_ rfl ?_; omega; omega) | refine tr_mv rfl (fun _ => rfl) ?_ | refine tr_ia2 (m32_of (by omega)) (by omega) rfl (fun _ => rfl) rfl (by decide) (by decide) (fun _ => rfl) ?_ | refine tr_size (by assumption) rfl rfl ?_ | refine tr_at2 (by assumption) (m32_of (by omega)) rfl rfl ?_)
          refine tr_at2 r_106 (i' := ((j + 1 : Nat) : Int)) (m32_of (by omega)) rfl rfl ?_
          rw [hB]
          repeat (first | refine tr_gr rfl ⟨by decide, rfl⟩ (by decide) rfl ?_ | refine tr_gi rfl (by decide) ⟨by decide, rfl⟩ (by decide) rfl rfl ?_ | refine tr_gr rfl (by assumption) (by decide) (by assumption) ?_ | refine tr_gi rfl (by decide) (by assumption) (by decide) (by assumption) (by assumption) ?_ | (refine tr_rem ?_ ?_ rfl ?_; omega; omega) | (refine tr_div ?_ ?_ rfl ?_; omega; omega) | refine tr_mv rfl (fun _ => rfl) ?_ | refine tr_ia2 (m32_of (by omega)) (by omega) rfl (fun _ => rfl) rfl (by decide) (by decide) (fun _ => rfl) ?_ | refine tr_size (by assumption) rfl rfl ?_ | refine tr_at2 (by assumption) (m32_of (by omega)) rfl rfl ?_)
          refine tr_at2 r_106 (i' := (j : Int)) (m32_of (by omega)) rfl rfl ?_
          rw [hB, rget_nat (show j < B.length by omega)]
          iterate 3 (refine tr_mv rfl (fun _ => rfl) ?_)
          by_cases c4 : j + 1 < A.length
          · have q2 := hp.2.2.1 (j + 1) c4
            have q3 := hp.2.2.2 j c4
            have q4 := h4 (j + 1) (by omega) c4
            have q5 := mono (j + 1) (A.length - 1) (by omega) (by omega)
            have q7 : 0 ≤ (x - A.getD j 0) * (B.getD (j + 1) 0 - B.getD j 0) := Int.mul_nonneg (by omega) (by omega)
            have q8 : (x - A.getD j 0) * (B.getD (j + 1) 0 - B.getD j 0) ≤ 1000 * 1000 := Int.mul_le_mul (by omega) (by omega) (by omega) (by omega)
            rw [rget_nat c4, rget_nat (show j + 1 < B.length by omega)]
            rw [if_neg (by omega), if_neg (by omega)] at K
            refine tr_if2 rfl (m32_of (by omega)) (fun c5 => ?_) (fun c5 => ?_)
            · exact absurd c5 (by show ¬ _ ≤ (0 : Int); omega)
            · repeat (first | refine tr_gr rfl ⟨by decide, rfl⟩ (by decide) rfl ?_ | refine tr_gi rfl (by decide) ⟨by decide, rfl⟩ (by decide) rfl rfl ?_ | refine tr_gr rfl (by assumption) (by decide) (by assumption) ?_ | refine tr_gi rfl (by decide) (by assumption) (by decide) (by assumption) (by assumption) ?_ | (refine tr_rem ?_ ?_ rfl ?_; omega; omega) | (refine tr_div ?_ ?_ rfl ?_; omega; omega) | refine tr_mv rfl (fun _ => rfl) ?_ | refine tr_ia2 (m32_of (by omega)) (by omega) rfl (fun _ => rfl) rfl (by decide) (by decide) (fun _ => rfl) ?_ | refine tr_size (by assumption) rfl rfl ?_ | refine tr_at2 (by assumption) (m32_of (by omega)) rfl rfl ?_)
              refine tr_at2 r_106 (i' := (j : Int)) (m32_of (by omega)) rfl rfl ?_
              rw [hB, rget_nat (show j < B.length by omega)]
              iterate 4 (refine tr_mv rfl (fun _ => rfl) ?_)
              refine tr_div ?_ ?_ rfl ?_; omega; omega
              iterate 2 (refine tr_mv rfl (fun _ => rfl) ?_)
              exact tr_ri rfl rfl K
          · have e1 : rget A ((j + 1 : Nat) : Int) = -1 := rget_out (by omega)
            rw [e1]
            rw [if_pos (by rw [show A.length - 1 = j by omega]; omega)] at K
            refine tr_if2 rfl (m32_of (by omega)) (fun c5 => ?_) (fun c5 => ?_)
            · iterate 1 (refine tr_mv rfl (fun _ => rfl) ?_)
              exact tr_ri rfl rfl K
            · exact absurd (show ¬ (-1 : Int) - A.getD j 0 ≤ 0 from c5) (by omega)
        · have c3 : x - A.getD j 0 = 0 := Decidable.of_not_not c2
          have q5 := mono j (A.length - 1) (by omega) (by omega)
          rw [if_neg (by omega)] at K
          repeat (first | refine tr_gr rfl ⟨by decide, rfl⟩ (by decide) rfl ?_ | refine tr_gi rfl (by decide) ⟨by decide, rfl⟩ (by decide) rfl rfl ?_ | refine tr_gr rfl (by assumption) (by decide) (by assumption) ?_ | refine tr_gi rfl (by decide) (by assumption) (by decide) (by assumption) (by assumption) ?_ | (refine tr_rem ?_ ?_ rfl ?_; omega; omega) | (refine tr_div ?_ ?_ rfl ?_; omega; omega) | refine tr_mv rfl (fun _ => rfl) ?_ | refine tr_ia2 (m32_of (by omega)) (by omega) rfl (fun _ => rfl) rfl (by decide) (by decide) (fun _ => rfl) ?_ | refine tr_size (by assumption) rfl rfl ?_ | refine tr_at2 (by assumption) (m32_of (by omega)) rfl rfl ?_)
          refine tr_at2 r_106 (i' := (j : Int)) (m32_of (by omega)) rfl rfl ?_
          rw [hB, rget_nat (show j < B.length by omega)]
          refine tr_ri rfl rfl ?_
          rw [c3, Int.zero_mul, Int.zero_ediv, Int.add_zero, ite_self] at K
          exact K
  have loop : ∀ (rest done : List Int) (r : Int), A = done ++ rest → in32 r → lastLe x (done.length : Int) r rest = lastLe x 0 (-1) A → Tr Ls N 91 4 [some (mP (some 103)), some (mI x), some (mI r), some (mI (done.length : Int)), none, none] [] σ post := by
    intro rest
    induction rest with
    | nil =>
      intro done r e hr h1
      rw [List.append_nil] at e
      have e9 := congrArg List.length e
      repeat (first | refine tr_gr rfl ⟨by decide, rfl⟩ (by decide) rfl ?_ | refine tr_gi rfl (by decide) ⟨by decide, rfl⟩ (by decide) rfl rfl ?_ | refine tr_gr rfl (by assumption) (by decide) (by assumption) ?_ | refine tr_gi rfl (by decide) (by assumption) (by decide) (by assumption) (by assumption) ?_ | (refine tr_rem ?_ ?_ rfl ?_; omega; omega) | (refine tr_div ?_ ?_ rfl ?_; omega; omega) | refine tr_mv rfl (fun _ => rfl) ?_ | refine tr_ia2 (m32_of (by omega)) (by omega) rfl (fun _ => rfl) rfl (by decide) (by decide) (fun _ => rfl) ?_ | refine tr_size (by assumption) rfl rfl ?_ | refine tr_at2 (by assumption) (m32_of (by omega)) rfl rfl ?_)
      refine tr_size r_104 rfl rfl ?_
      rw [hA]
      refine tr_cmp2 rfl (m32_of (by omega)) (m32_of (by omega)) (fun _ => ?_) (fun c1 => absurd (show (A.length : Int) ≤ (done.length : Int) by omega) c1)
      rw [show r = lastLe x 0 (-1) A from h1]
      exact t39 _
    | cons z rest ih =>
      intro done r e hr h1
      have hlen : A.length = done.length + 1 + rest.length := by rw [e]; simp; omega
      have hz := hp.2.2.1 done.length (by omega)
      have hzz : A.getD done.length 0 = z := by rw [e, List.getD_eq_getElem?_getD]; simp
      rw [hzz] at hz
      have h32 : ∀ w, in32 w → w = (if z ≤ x then (done.length : Int) else r) → Tr Ls N 91 32 [some (mP (some 103)), some (mI x), some (mI r), some (mI (done.length : Int)), none, none] [mI w] σ post := by
        intro w hw ew
        iterate 3 (refine tr_mv rfl (fun _ => rfl) ?_)
        show Tr Ls N 91 4 [some (mP (some 103)), some (mI x), some (mI w), some (mI ((done.length : Int) + 1)), none, none] [] σ post
        rw [show (done.length : Int) + 1 = ((done ++ [z]).length : Int) by simp]
        refine ih (done ++ [z]) w (by rw [e]; simp) hw ?_
        rw [← h1, ew, show ((done ++ [z]).length : Int) = (done.length : Int) + 1 by simp]
        rfl
      repeat (first | refine tr_gr rfl ⟨by decide, rfl⟩ (by decide) rfl ?_ | refine tr_gi rfl (by decide) ⟨by decide, rfl⟩ (by decide) rfl rfl ?_ | refine tr_gr rfl (by assumption) (by decide) (by assumption) ?_ | refine tr_gi rfl (by decide) (by assumption) (by decide) (by assumption) (by assumption) ?_ | (refine tr_rem ?_ ?_ rfl ?_; omega; omega) | (refine tr_div ?_ ?_ rfl ?_; omega; omega) | refine tr_mv rfl (fun _ => rfl) ?_ | refine tr_ia2 (m32_of (by omega)) (by omega) rfl (fun _ => rfl) rfl (by decide) (by decide) (fun _ => rfl) ?_ | refine tr_size (by assumption) rfl rfl ?_ | refine tr_at2 (by assumption) (m32_of (by omega)) rfl rfl ?_)
      refine tr_size r_104 rfl rfl ?_
      rw [hA]
      refine tr_cmp2 rfl (m32_of (by omega)) (m32_of (by omega)) (fun c9 => absurd c9 (by show ¬ _ ≤ _; omega)) (fun _ => ?_)
      repeat (first | refine tr_gr rfl ⟨by decide, rfl⟩ (by decide) rfl ?_ | refine tr_gi rfl (by decide) ⟨by decide, rfl⟩ (by decide) rfl rfl ?_ | refine tr_gr rfl (by assumption) (by decide) (by assumption) ?_ | refine tr_gi rfl (by decide) (by assumption) (by decide) (by assumption) (by assumption) ?_ | (refine tr_rem ?_ ?_ rfl ?_; omega; omega) | (refine tr_div ?_ ?_ rfl ?_; omega; omega) | refine tr_mv rfl (fun _ => rfl) ?_ | refine tr_ia2 (m32_of (by omega)) (by omega) rfl (fun _ => rfl) rfl (by decide) (by decide) (fun _ => rfl) ?_ | refine tr_size (by assumption) rfl rfl ?_ | refine tr_at2 (by assumption) (m32_of (by omega)) rfl rfl ?_)
      refine tr_at2 r_104 (i' := (done.length : Int)) (m32_of (by omega)) rfl rfl ?_
      rw [hA, rget_nat (by omega), hzz]
      iterate 1 (refine tr_mv rfl (fun _ => rfl) ?_)
      refine tr_cmp2 rfl (m32_of (by omega)) (m32_of (by omega)) (fun c1 => ?_) (fun c1 => ?_)
      · have c2 : x < z := c1
        iterate 1 (refine tr_mv rfl (fun _ => rfl) ?_)
        exact h32 r hr (by rw [if_neg (by omega)])
      · have c2 : ¬ x < z := c1
        iterate 2 (refine tr_mv rfl (fun _ => rfl) ?_)
        exact h32 _ (by omega) (by rw [if_pos (by omega)])
  iterate 4 (refine tr_mv rfl (fun _ => rfl) ?_)
  exact loop A [] (-1) rfl (by decide) rfl
theorem s_320 (hc : σ.2 480 67 = (A.length : Int)) (hA : mseg σ 531 0 A) (hB : mseg σ 532 0 B) (hp : okPins A B) (hx : 0 ≤ x ∧ x < 1000) (K : post (.inl (some (mI (mvF A B x)))) σ) : Tr Ls N 320 0 [some (mP (some 480)), some (mI x), none, none] [] σ post := by
  have hl6 := hp.2.1
  have hlB := hp.1
  have gA : ∀ j, j < A.length → σ.2 531 j = A.getD j 0 := fun j hj => by have := hA j hj; rwa [Nat.zero_add] at this
  have gB : ∀ j, j < A.length → σ.2 532 j = B.getD j 0 := fun j hj => by have := hB j (by omega); rwa [Nat.zero_add] at this
  have mono : ∀ a b, a ≤ b → b < A.length → A.getD a 0 ≤ A.getD b 0 := fun a b hab hb => by
    have := (okPins.mono hp (b - a) a (by omega)).1
    rw [show a + (b - a) = b by omega] at this
    exact this
  have t34 : ∀ v3, Tr Ls N 320 34 [some (mP (some 480)), some (mI x), some (mI (lastLe x 0 (-1) A)), v3] [] σ post := by
    intro v3
    rcases lastLe_of x A with ⟨h1, _⟩ | ⟨j, h1, h2, h3, h4⟩
    · rw [h1]
      rw [mvF_no h1] at K
      repeat (refine tr_mv rfl (fun _ => rfl) ?_)
      exact tr_ri rfl rfl K
    · rw [h1]
      have q1 := hp.2.2.1 j h2
      have q0 := hp.2.2.1 (A.length - 1) (by omega)
      rw [mvF_j h1] at K
      iterate 2 (refine tr_mv rfl (fun _ => rfl) ?_)
      refine tr_cmp2 rfl (m32_of (by omega)) (m32_of (by omega)) (fun c1 => ?_) (fun c1 => ?_)
      · exact absurd c1 (by show ¬ _ = (-1 : Int); omega)
      · repeat (first | refine tr_mgr rfl (by decide) rfl ?_ | refine tr_mgi rfl (by decide) (by decide) rfl ?_ | refine tr_mv rfl (fun _ => rfl) ?_)
        rw [hc]
        refine tr_man (j := A.length - 1) rfl (by omega) (by omega) rfl (fun _ => rfl) rfl rfl rfl ?_
        rw [gA _ (by omega)]
        refine tr_cmp2 rfl (m32_of (by omega)) (m32_of (by omega)) (fun c2 => ?_) (fun c2 => ?_)
        · have c3 : ¬ A.getD (A.length - 1) 0 < x := by have c4 : x ≤ A.getD (A.length - 1) 0 := c2; omega
          rw [if_neg c3] at K
          repeat (first | refine tr_mgr rfl (by decide) rfl ?_ | refine tr_mgi rfl (by decide) (by decide) rfl ?_ | refine tr_mv rfl (fun _ => rfl) ?_)
          rw [hc]
          refine tr_cmp2 rfl (m32_of (by omega)) (m32_of (by omega)) (fun c4 => ?_) (fun c4 => ?_)
          · have c5 : ¬ (j : Int) = (A.length : Int) - 1 := c4
            rw [if_neg (by omega)] at K
            have q2 := hp.2.2.1 (j + 1) (by omega)
            have q3 := hp.2.2.2 j (by omega)
            have q4 := h4 (j + 1) (by omega) (by omega)
            have q7 : 0 ≤ (x - A.getD j 0) * (B.getD (j + 1) 0 - B.getD j 0) := Int.mul_nonneg (by omega) (by omega)
            have q8 : (x - A.getD j 0) * (B.getD (j + 1) 0 - B.getD j 0) ≤ 1000 * 1000 := Int.mul_le_mul (by omega) (by omega) (by omega) (by omega)
            repeat (first | refine tr_mgr rfl (by decide) rfl ?_ | refine tr_mgi rfl (by decide) (by decide) rfl ?_ | refine tr_mv rfl (fun _ => rfl) ?_)
            refine tr_man (j := j) rfl (by omega) (by omega) rfl (fun _ => rfl) rfl rfl rfl ?_
            rw [gA _ h2]
            repeat (first | refine tr_mgr rfl (by decide) rfl ?_ | refine tr_mgi rfl (by decide) (by decide) rfl ?_ | refine tr_mv rfl (fun _ => rfl) ?_)
            refine tr_man (j := j + 1) rfl (by omega) (by omega) rfl (fun _ => rfl) rfl rfl rfl ?_
            rw [gB _ (by omega)]
            repeat (first | refine tr_mgr rfl (by decide) rfl ?_ | refine tr_mgi rfl (by decide) (by decide) rfl ?_ | refine tr_mv rfl (fun _ => rfl) ?_)
            refine tr_man (j := j) rfl (by omega) (by omega) rfl (fun _ => rfl) rfl rfl rfl ?_
            rw [gB _ h2]
            repeat (first | refine tr_mgr rfl (by decide) rfl ?_ | refine tr_mgi rfl (by decide) (by decide) rfl ?_ | refine tr_mv rfl (fun _ => rfl) ?_)
            refine tr_man (j := j + 1) rfl (by omega) (by omega) rfl (fun _ => rfl) rfl rfl rfl ?_
            rw [gA _ (by omega)]
            repeat (first | refine tr_mgr rfl (by decide) rfl ?_ | refine tr_mgi rfl (by decide) (by decide) rfl ?_ | refine tr_mv rfl (fun _ => rfl) ?_)
            refine tr_man (j := j) rfl (by omega) (by omega) rfl (fun _ => rfl) rfl rfl rfl ?_
            rw [gA _ h2]
            iterate 1 (refine tr_mv rfl (fun _ => rfl) ?_)
            refine tr_div ?_ ?_ rfl ?_; omega; omega
            repeat (first | refine tr_mgr rfl (by decide) rfl ?_ | refine tr_mgi rfl (by decide) (by decide) rfl ?_ | refine tr_mv rfl (fun _ => rfl) ?_)
            refine tr_man (j := j) rfl (by omega) (by omega) rfl (fun _ => rfl) rfl rfl rfl ?_
            rw [gB _ h2]
            iterate 2 (refine tr_mv rfl (fun _ => rfl) ?_)
            exact tr_ri rfl rfl K
          · have c5 : (j : Int) = (A.length : Int) - 1 := Decidable.of_not_not c4
            rw [if_pos (by omega)] at K
            repeat (first | refine tr_mgr rfl (by decide) rfl ?_ | refine tr_mgi rfl (by decide) (by decide) rfl ?_ | refine tr_mv rfl (fun _ => rfl) ?_)
            refine tr_man (j := j) rfl (by omega) (by omega) rfl (fun _ => rfl) rfl rfl rfl ?_
            rw [gB _ h2]
            iterate 2 (refine tr_mv rfl (fun _ => rfl) ?_)
            refine tr_ri rfl rfl ?_
            rw [Int.add_zero]
            exact K
        · have c3 : A.getD (A.length - 1) 0 < x := by have c4 : ¬ x ≤ A.getD (A.length - 1) 0 := c2; omega
          rw [if_pos c3] at K
          iterate 1 (refine tr_mv rfl (fun _ => rfl) ?_)
          exact tr_ri rfl rfl K
  have loop : ∀ (rest done : List Int) (r : Int), A = done ++ rest → in32 r → lastLe x (done.length : Int) r rest = lastLe x 0 (-1) A → Tr Ls N 320 4 [some (mP (some 480)), some (mI x), some (mI r), some (mI (done.length : Int))] [] σ post := by
    intro rest
    induction rest with
    | nil =>
      intro done r e hr h1
      rw [List.append_nil] at e
      have e9 := congrArg List.length e
      repeat (first | refine tr_mgr rfl (by decide) rfl ?_ | refine tr_mgi rfl (by decide) (by decide) rfl ?_ | refine tr_mv rfl (fun _ => rfl) ?_)
      rw [hc]
      refine tr_cmp2 rfl (m32_of (by omega)) (m32_of (by omega)) (fun _ => ?_) (fun c1 => absurd (show (A.length : Int) ≤ (done.length : Int) by omega) c1)
      rw [show r = lastLe x 0 (-1) A from h1]
      exact t34 _
    | cons z rest ih =>
      intro done r e hr h1
      have hlen : A.length = done.length + 1 + rest.length := by rw [e]; simp; omega
      have hz := hp.2.2.1 done.length (by omega)
      have hzz : A.getD done.length 0 = z := by rw [e, List.getD_eq_getElem?_getD]; simp
      rw [hzz] at hz
      have h27 : ∀ w, in32 w → w = (if z ≤ x then (done.length : Int) else r) → Tr Ls N 320 27 [some (mP (some 480)), some (mI x), some (mI r), some (mI (done.length : Int))] [mI w] σ post := by
        intro w hw ew
        iterate 3 (refine tr_mv rfl (fun _ => rfl) ?_)
        show Tr Ls N 320 4 [some (mP (some 480)), some (mI x), some (mI w), some (mI ((done.length : Int) + 1))] [] σ post
        rw [show (done.length : Int) + 1 = ((done ++ [z]).length : Int) by simp]
        refine ih (done ++ [z]) w (by rw [e]; simp) hw ?_
        rw [← h1, ew, show ((done ++ [z]).length : Int) = (done.length : Int) + 1 by simp]
        rfl
      repeat (first | refine tr_mgr rfl (by decide) rfl ?_ | refine tr_mgi rfl (by decide) (by decide) rfl ?_ | refine tr_mv rfl (fun _ => rfl) ?_)
      rw [hc]
      refine tr_cmp2 rfl (m32_of (by omega)) (m32_of (by omega)) (fun c9 => absurd c9 (by show ¬ _ ≤ _; omega)) (fun _ => ?_)
      repeat (first | refine tr_mgr rfl (by decide) rfl ?_ | refine tr_mgi rfl (by decide) (by decide) rfl ?_ | refine tr_mv rfl (fun _ => rfl) ?_)
      refine tr_man (j := done.length) rfl (by omega) (by omega) rfl (fun _ => rfl) rfl rfl rfl ?_
      rw [gA _ (by omega), hzz]
      iterate 1 (refine tr_mv rfl (fun _ => rfl) ?_)
      refine tr_cmp2 rfl (m32_of (by omega)) (m32_of (by omega)) (fun c1 => ?_) (fun c1 => ?_)
      · have c2 : x < z := c1
        iterate 1 (refine tr_mv rfl (fun _ => rfl) ?_)
        exact h27 r hr (by rw [if_neg (by omega)])
      · have c2 : ¬ x < z := c1
        iterate 2 (refine tr_mv rfl (fun _ => rfl) ?_)
        exact h27 _ (by omega) (by rw [if_pos (by omega)])
  iterate 4 (refine tr_mv rfl (fun _ => rfl) ?_)
  exact loop A [] (-1) rfl (by decide) rfl
end MOVS
