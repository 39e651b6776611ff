/-! The class Tailoring: can a rule be told? -/
abbrev lmk (x : Int) : Prop := isLet x ∨ isMrk x
/-- can a code be an item -/
abbrev canBe (c : Int) : Prop := 0 < sgIn c ∧ isLet (sgAt c 0) ∧ (1 < sgIn c → lmk (sgAt c 1)) ∧ (2 < sgIn c → lmk (sgAt c 2))
section CAN
variable {Ls N N1 N2 k pc n n' nn b c t u a q : Nat} {L L0 : mLs} {st r as : List mV} {h h' : mH} {σ σ' σ'' : Sg} {post : tP} {x y z x' y' i i' s v m w how an it : Int} {xs ys its lvs : List Int} {e : mE} {C : Nat → Nat → Prop} {B M : Int → Int} {R : Nat → Prop}
theorem sgIn_in (w : Int) : 0 ≤ sgIn w ∧ sgIn w ≤ 3 ∧ (0 < sgIn w ↔ 0 < w) := by
  unfold sgIn
  split
  · omega
  · split
    · omega
    · split <;> omega
theorem sgAt_in {w : Int} (hw : 0 ≤ w) (i : Int) : -1 ≤ sgAt w i ∧ sgAt w i < 99 := by
  unfold sgAt
  split
  · omega
  · split <;> omega
theorem s_117 (hw : -1 ≤ w ∧ w < 1010101) (K : post (.inl (some (mI (b2 (canBe w))))) σ) : Tr Ls N 117 0 [some (mI w), none] [] σ post := by
  have hs := sgIn_in w
  have hexit : ∀ i : Int, in32 i → (1 < sgIn w → lmk (sgAt w 1)) → (2 < sgIn w → lmk (sgAt w 2)) → Tr Ls N 117 40 [some (mI w), some (mI i)] [] σ post := by
    intro i hi p1 p2
    iterate 1 (refine tr_mv rfl (fun _ => rfl) ?_)
    refine tr_stat rfl rfl rfl (s_186 (by omega) ?_)
    refine tr_if2 rfl (m32_of (by omega)) (fun c1 => ?_) (fun c1 => ?_)
    · iterate 1 (refine tr_mv rfl (fun _ => rfl) ?_)
      exact tr_rb0 rfl (fun g => absurd g.1 (by omega)) K
    · have hw0 : 0 < w := by omega
      iterate 2 (refine tr_mv rfl (fun _ => rfl) ?_)
      refine tr_stat rfl rfl rfl (s_187 (by omega) (by omega) ?_)
      have hg := sgAt_in (show 0 ≤ w by omega) 0
      refine tr_stat rfl rfl rfl (s_178 (by omega) ?_)
      first | refine tr_ib rfl (fun c2 => ?_) (fun c2 => ?_) | refine tr_ibn rfl (fun c2 => ?_) (fun c2 => ?_)
      · iterate 1 (refine tr_mv rfl (fun _ => rfl) ?_)
        exact tr_rb0 rfl (fun g => c2 g.2.1) K
      · iterate 2 (refine tr_mv rfl (fun _ => rfl) ?_)
        exact tr_rb1 rfl ⟨by omega, c2, p1, p2⟩ K
  have hout : ∀ i : Int, in32 i → sgIn w ≤ i → (1 < sgIn w → lmk (sgAt w 1)) → (2 < sgIn w → lmk (sgAt w 2)) → Tr Ls N 117 2 [some (mI w), some (mI i)] [] σ post := by
    intro i hi hle p1 p2
    iterate 2 (refine tr_mv rfl (fun _ => rfl) ?_)
    refine tr_stat rfl rfl rfl (s_186 (by omega) ?_)
    refine tr_cmp2 rfl (m32_of hi) (m32_of (by omega)) (fun _ => ?_) (fun c1 => absurd hle c1)
    exact hexit i hi p1 p2
  have hstep : ∀ i : Int, 1 ≤ i ∧ i ≤ 2 → i < sgIn w → (¬ lmk (sgAt w i) → ¬ canBe w) → (lmk (sgAt w i) → Tr Ls N 117 2 [some (mI w), some (mI (i + 1))] [] σ post) → Tr Ls N 117 2 [some (mI w), some (mI i)] [] σ post := by
    intro i hi hlt hno hyes
    have hw0 : 0 < w := by omega
    have hg := sgAt_in (show 0 ≤ w by omega) i
    have h34 : lmk (sgAt w i) → Tr Ls N 117 34 [some (mI w), some (mI i)] [] σ post := by
      intro g
      iterate 2 (refine tr_mv rfl (fun _ => rfl) ?_)
      exact hyes g
    iterate 2 (refine tr_mv rfl (fun _ => rfl) ?_)
    refine tr_stat rfl rfl rfl (s_186 (by omega) ?_)
    refine tr_cmp2 rfl (m32_of (by omega)) (m32_of (by omega)) (fun c1 => absurd c1 (by show ¬ _ ≤ _; omega)) (fun _ => ?_)
    iterate 2 (refine tr_mv rfl (fun _ => rfl) ?_)
    refine tr_stat rfl rfl rfl (s_187 (by omega) (by omega) ?_)
    refine tr_stat rfl rfl rfl (s_178 (by omega) ?_)
    first | refine tr_ib rfl (fun c2 => ?_) (fun c2 => ?_) | refine tr_ibn rfl (fun c2 => ?_) (fun c2 => ?_)
    · exact h34 (Or.inl c2)
    · iterate 2 (refine tr_mv rfl (fun _ => rfl) ?_)
      refine tr_stat rfl rfl rfl (s_187 (by omega) (by omega) ?_)
      refine tr_stat rfl rfl rfl (s_179 (by omega) ?_)
      first | refine tr_ib rfl (fun c3 => ?_) (fun c3 => ?_) | refine tr_ibn rfl (fun c3 => ?_) (fun c3 => ?_)
      · exact h34 (Or.inr c3)
      · iterate 1 (refine tr_mv rfl (fun _ => rfl) ?_)
        exact tr_rb0 rfl (hno (fun g => g.elim c2 c3)) K
  iterate 2 (refine tr_mv rfl (fun _ => rfl) ?_)
  show Tr Ls N 117 2 [some (mI w), some (mI 1)] [] σ post
  by_cases h1 : 1 < sgIn w
  · refine hstep 1 (by omega) h1 (fun g k => g (k.2.2.1 h1)) (fun g1 => ?_)
    show Tr Ls N 117 2 [some (mI w), some (mI 2)] [] σ post
    by_cases h2 : 2 < sgIn w
    · refine hstep 2 (by omega) h2 (fun g k => g (k.2.2.2 h2)) (fun g2 => ?_)
      exact hout 3 (by omega) (by omega) (fun _ => g1) (fun _ => g2)
    · exact hout 2 (by omega) (by omega) (fun _ => g1) (fun g => absurd g h2)
  · exact hout 1 (by omega) (by omega) (fun g => absurd g h1) (fun g => absurd g (by omega))
end CAN
