/-! The class: headings told. -/
section CHD
variable {Ls N k pc n n' nn b c t a q kd w d p X T : Nat} {L0 : mLs} {st r as : List mV} {h h' : mH} {σ σ' σ'' : Sg} {post : tP} {x y z x' y' i i' s v m u lv : Int} {hd : Nat → Int}
theorem q_34 : mShp[34]? = some (1, 12) := by decide +kernel
theorem q_34c : rowC 34 = false := by decide +kernel
theorem s_136 (hH : cHd σ hd) (hx : in32 x) (hy : y = 0 ∨ y = 1)
    (K1 : ¬ (0 ≤ x ∧ x ≤ 11) → post (.inr 0) σ)
    (K2 : ∀ l : Nat, x = (l : Int) → l < 12 → cHd (setF σ 34 l y) (hdU hd l y) → post (.inl (some (mI (hdC (hdU hd l y) 12 0)))) (setF σ 34 l y)) :
    Tr Ls (N + 1) 136 0 [some (mP (some 2)), some (mI x), some (mI y), none, none] [] σ post := by
  iterate 1 (refine tr_mv rfl (fun _ => rfl) ?_)
  refine tr_if2 rfl (m32_of (by omega)) (fun c1 => ?_) (fun c1 => ?_)
  · have c2 : x < 0 := c1
    exact tr_throw rfl (K1 (by omega))
  · have c2 : ¬ x < 0 := c1
    iterate 2 (refine tr_mv rfl (fun _ => rfl) ?_)
    refine tr_cmp2 rfl (m32_of (by omega)) (m32_of (by omega)) (fun c3 => ?_) (fun c3 => ?_)
    · have c4 : x < 12 := c3
      obtain ⟨l, rfl⟩ : ∃ l : Nat, x = (l : Int) := ⟨x.toNat, by omega⟩
      have hl : l < 12 := by omega
      have hH2 : cHd (setF σ 34 l y) (hdU hd l y) := fun i hi => by
        unfold hdU
        by_cases g : i = l
        · rw [if_pos g, g, setF_same]
          exact ⟨rfl, hy⟩
        · rw [if_neg g, setF_ne _ _ (by omega)]
          exact hH i hi
      have K' := K2 l rfl hl hH2
      repeat (first | refine tr_gr rfl ⟨by decide, rfl⟩ (by decide) rfl ?_ | refine tr_gi rfl (by decide) ⟨by decide, rfl⟩ (by decide) rfl rfl ?_ | refine tr_gr rfl (by assumption) (by decide) (by assumption) ?_ | refine tr_gi rfl (by decide) (by assumption) (by decide) (by assumption) (by assumption) ?_ | (refine tr_rem ?_ ?_ rfl ?_; omega; omega) | (refine tr_div ?_ ?_ rfl ?_; omega; omega) | refine tr_mv rfl (fun _ => rfl) ?_ | refine tr_ia2 (m32_of (by omega)) (by omega) rfl (fun _ => rfl) rfl (by decide) (by decide) (fun _ => rfl) ?_ | refine tr_size (by assumption) rfl rfl ?_ | refine tr_at2 (by assumption) (m32_of (by omega)) rfl rfl ?_)
      refine tr_is2 (kd := 1) (nn := 12) (i' := (l : Int)) (m32_of (by omega)) (by omega) rfl (fun h => by simp only [mstep]; rw [if_pos hy]) q_34 (by decide) q_34c (mPtr_arr q_34 (by decide)) ?_
      rw [Int.toNat_natCast]
      generalize setF σ 34 l y = σ2 at *
      generalize hdU hd l y = f at *
      have loop : ∀ (d i : Nat) (acc : Int), i + d = 12 → (0 ≤ acc ∧ acc ≤ i) → acc + hdC f d i = hdC f 12 0 → Tr Ls (N + 1) 136 32 [some (mP (some 2)), some (mI (l : Int)), some (mI y), some (mI acc), some (mI (i : Int))] [] σ2 post := by
        intro d
        induction d with
        | zero =>
          intro i acc e ha hs
          iterate 2 (refine tr_mv rfl (fun _ => rfl) ?_)
          refine tr_cmp2 rfl (m32_of (by omega)) (m32_of (x := 12) ⟨by decide, by decide⟩) (fun _ => ?_) (fun c9 => absurd (show (12 : Int) ≤ (i : Int) by omega) c9)
          iterate 1 (refine tr_mv rfl (fun _ => rfl) ?_)
          refine tr_ri rfl rfl ?_
          rw [← hs, show hdC f 0 i = 0 from rfl, Int.add_zero] at K'
          exact K'
        | succ d ih =>
          intro i acc e ha hs
          rw [show hdC f (d + 1) i = (if f i = 0 then 0 else 1) + hdC f d (i + 1) from rfl] at hs
          obtain ⟨hf, hf2⟩ := hH2 i (by omega)
          iterate 2 (refine tr_mv rfl (fun _ => rfl) ?_)
          refine tr_cmp2 rfl (m32_of (by omega)) (m32_of (x := 12) ⟨by decide, by decide⟩) (fun c9 => absurd c9 (by show ¬ (12 : Int) ≤ _; omega)) (fun _ => ?_)
          iterate 2 (refine tr_mv rfl (fun _ => rfl) ?_)
          refine tr_gr rfl ⟨by decide, rfl⟩ (by decide) rfl ?_
          iterate 1 (refine tr_mv rfl (fun _ => rfl) ?_)
          refine tr_ia2 (kd := 1) (nn := 12) (i' := (i : Int)) (m32_of (by omega)) (by omega) rfl (fun _ => rfl) q_34 (by decide) q_34c (mPtr_arr q_34 (by decide)) ?_
          rw [Int.toNat_natCast, hf]
          refine tr_if2 rfl (m32_of (by omega)) (fun c5 => ?_) (fun c5 => ?_)
          · have c6 : f i = 0 := c5
            rw [if_pos c6] at hs
            iterate 5 (refine tr_mv rfl (fun _ => rfl) ?_)
            show Tr Ls (N + 1) 136 32 [some (mP (some 2)), some (mI (l : Int)), some (mI y), some (mI (acc + 0)), some (mI ((i : Int) + 1))] [] σ2 post
            rw [show (i : Int) + 1 = ((i + 1 : Nat) : Int) by omega]
            exact ih (i + 1) _ (by omega) (by omega) (by omega)
          · have c6 : ¬ f i = 0 := c5
            rw [if_neg c6] at hs
            iterate 6 (refine tr_mv rfl (fun _ => rfl) ?_)
            show Tr Ls (N + 1) 136 32 [some (mP (some 2)), some (mI (l : Int)), some (mI y), some (mI (acc + 1)), some (mI ((i : Int) + 1))] [] σ2 post
            rw [show (i : Int) + 1 = ((i + 1 : Nat) : Int) by omega]
            exact ih (i + 1) _ (by omega) (by omega) (by omega)
      iterate 4 (refine tr_mv rfl (fun _ => rfl) ?_)
      exact loop 12 0 0 rfl (by omega) (by omega)
    · have c4 : ¬ x < 12 := c3
      exact tr_throw rfl (K1 (by omega))
end CHD
