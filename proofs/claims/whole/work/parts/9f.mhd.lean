/-! Headings told: how many levels have them. -/
def hdC (f : Nat → Int) : Nat → Nat → Int
  | 0, _ => 0
  | d + 1, i => (if f i = 0 then 0 else 1) + hdC f d (i + 1)
def hdU (hd : Nat → Int) (l : Nat) (y : Int) : Nat → Int := fun i => if i = l then y else hd i
theorem hdC_in (f : Nat → Int) : ∀ d i, 0 ≤ hdC f d i ∧ hdC f d i ≤ d
  | 0, _ => ⟨Int.le_refl _, Int.le_refl _⟩
  | d + 1, i => by
    have := hdC_in f d (i + 1)
    unfold hdC
    split <;> omega
section MHD
variable {Ls N k pc n n' nn b c t a q kd w d p X T : Nat} {L0 : mLs} {st r as : List mV} {h h' : mH} {σ σ' σ'' : Sg} {post : tP} {x y z x' y' i i' s v m u lv : Int} {hd : Nat → Int}
theorem s_281 (hH : mHd σ hd) (hx : in32 x) (hy : y = 0 ∨ y = 1)
    (K1 : ¬ (0 ≤ x ∧ x ≤ 11) → post (.inl (some (mI 0))) (setF σ 480 0 1))
    (K2 : ∀ l : Nat, x = (l : Int) → l < 12 → mHd (setF (setF σ 480 0 0) 512 l y) (hdU hd l y) → post (.inl (some (mI (hdC (hdU hd l y) 12 0)))) (setF (setF σ 480 0 0) 512 l y)) :
    Tr Ls N 281 0 [some (mP (some 480)), some (mI x), some (mI y), none, none] [] σ post := by
  iterate 4 (refine tr_mv rfl (fun _ => rfl) ?_)
  refine tr_stat rfl rfl rfl (s_211 hx (by decide) (by decide) ?_)
  first | refine tr_ib rfl (fun c1 => ?_) (fun c1 => ?_) | refine tr_ibn rfl (fun c1 => ?_) (fun c1 => ?_)
  · iterate 1 (refine tr_mv rfl (fun _ => rfl) ?_)
    refine tr_vc (q := 480) rfl isO_480 rfl rfl rfl (s_210 (by decide) ?_)
    rw [b2, if_neg (by decide)]
    repeat (refine tr_mv rfl (fun _ => rfl) ?_)
    exact tr_ri rfl rfl (K1 c1)
  · iterate 2 (refine tr_mv rfl (fun _ => rfl) ?_)
    refine tr_vc (q := 480) rfl isO_480 rfl rfl rfl (s_210 (by decide) ?_)
    rw [b2, if_pos rfl]
    obtain ⟨l, rfl⟩ : ∃ l : Nat, x = (l : Int) := ⟨x.toNat, by omega⟩
    have hl : l < 12 := by omega
    have h31 : Tr Ls N 281 31 [some (mP (some 480)), some (mI (l : Int)), some (mI y), none, none] [] (setF (setF σ 480 0 0) 512 l y) post := by
      iterate 4 (refine tr_mv rfl (fun _ => rfl) ?_)
      have hH2 : mHd (setF (setF σ 480 0 0) 512 l y) (hdU hd l y) := fun i hi => by
        unfold hdU
        by_cases g : i = l
        · rw [if_pos g, g, setF_same]
          exact ⟨rfl, hy⟩
        · rw [if_neg g, setF_ne _ _ (by omega), setF_ne _ _ (by omega)]
          exact hH i hi
      have K' := K2 l rfl hl hH2
      generalize setF (setF σ 480 0 0) 512 l y = σ2 at *
      generalize hdU hd l y = f at *
      have loop : ∀ (d i : Nat) (acc : Int), i + d = 12 → (0 ≤ acc ∧ acc ≤ i) → acc + hdC f d i = hdC f 12 0 → Tr Ls N 281 36 [some (mP (some 480)), some (mI (l : Int)), some (mI y), some (mI acc), some (mI (i : Int))] [] σ2 post := by
        intro d
        induction d with
        | zero =>
          intro i acc e ha hs
          iterate 2 (refine tr_mv rfl (fun _ => rfl) ?_)
          refine tr_cmp2 rfl (m32_of (by omega)) (m32_of (x := 12) ⟨by decide, by decide⟩) (fun _ => ?_) (fun c9 => absurd (show (12 : Int) ≤ (i : Int) by omega) c9)
          iterate 1 (refine tr_mv rfl (fun _ => rfl) ?_)
          refine tr_ri rfl rfl ?_
          rw [← hs, show hdC f 0 i = 0 from rfl, Int.add_zero] at K'
          exact K'
        | succ d ih =>
          intro i acc e ha hs
          rw [show hdC f (d + 1) i = (if f i = 0 then 0 else 1) + hdC f d (i + 1) from rfl] at hs
          obtain ⟨hf, hf2⟩ := hH2 i (by omega)
          iterate 2 (refine tr_mv rfl (fun _ => rfl) ?_)
          refine tr_cmp2 rfl (m32_of (by omega)) (m32_of (x := 12) ⟨by decide, by decide⟩) (fun c9 => absurd c9 (by show ¬ (12 : Int) ≤ _; omega)) (fun _ => ?_)
          repeat (first | refine tr_mgr rfl (by decide) rfl ?_ | refine tr_mgi rfl (by decide) (by decide) rfl ?_ | refine tr_mv rfl (fun _ => rfl) ?_)
          refine tr_man (j := i) rfl (by omega) (by omega) rfl (fun _ => rfl) rfl rfl rfl ?_
          rw [hf]
          refine tr_if2 rfl (m32_of (by omega)) (fun c2 => ?_) (fun c2 => ?_)
          · have c3 : f i = 0 := c2
            rw [if_pos c3] at hs
            iterate 5 (refine tr_mv rfl (fun _ => rfl) ?_)
            show Tr Ls N 281 36 [some (mP (some 480)), some (mI (l : Int)), some (mI y), some (mI (acc + 0)), some (mI ((i : Int) + 1))] [] σ2 post
            rw [show (i : Int) + 1 = ((i + 1 : Nat) : Int) by omega]
            exact ih (i + 1) _ (by omega) (by omega) (by omega)
          · have c3 : ¬ f i = 0 := c2
            rw [if_neg c3] at hs
            iterate 6 (refine tr_mv rfl (fun _ => rfl) ?_)
            show Tr Ls N 281 36 [some (mP (some 480)), some (mI (l : Int)), some (mI y), some (mI (acc + 1)), some (mI ((i : Int) + 1))] [] σ2 post
            rw [show (i : Int) + 1 = ((i + 1 : Nat) : Int) by omega]
            exact ih (i + 1) _ (by omega) (by omega) (by omega)
      exact loop 12 0 0 rfl (by omega) (by omega)
    rcases hy with rfl | rfl
    · repeat (first | refine tr_mgr rfl (by decide) rfl ?_ | refine tr_mgi rfl (by decide) (by decide) rfl ?_ | refine tr_mv rfl (fun _ => rfl) ?_)
      refine tr_msn (j := l) rfl (by omega) (by omega) rfl (fun _ => rfl) rfl rfl rfl ?_
      exact h31
    · repeat (first | refine tr_mgr rfl (by decide) rfl ?_ | refine tr_mgi rfl (by decide) (by decide) rfl ?_ | refine tr_mv rfl (fun _ => rfl) ?_)
      refine tr_msn (j := l) rfl (by omega) (by omega) rfl (fun _ => rfl) rfl rfl rfl ?_
      exact h31
end MHD
