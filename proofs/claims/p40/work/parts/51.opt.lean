/-! The class Tailoring: options; all rules told. -/
section OPT
variable {Ls N N1 N2 k pc n n' nn b c t u a q : Nat} {L L0 : mLs} {st r as : List mV} {h h' : mH} {σ σ' σ'' : Sg} {post : tP} {x y z x' y' i i' s v m w how an it : Int} {xs ys its lvs : List Int} {e : mE} {C : Nat → Nat → Prop} {B M : Int → Int} {R : Nat → Prop}
/-- an option: 0 or 1 in the array behind the rows -/
theorem s_108 (ht : isT t) (hx : in32 x) (ho : ∀ j, j < 3 → σ.2 (t + 21) j = 0 ∨ σ.2 (t + 21) j = 1) (K : post (.inl (some (mI (b2 (0 ≤ x ∧ x < 3 ∧ σ.2 (t + 21) x.toNat = 1))))) σ) : Tr Ls N 108 0 [some (mP (some t)), some (mI x)] [] σ post := by
  iterate 1 (refine tr_mv rfl (fun _ => rfl) ?_)
  refine tr_if2 rfl (m32_of (by omega)) (fun c1 => ?_) (fun c1 => ?_)
  · iterate 1 (refine tr_mv rfl (fun _ => rfl) ?_)
    exact tr_rb0 rfl (by omega) K
  · iterate 2 (refine tr_mv rfl (fun _ => rfl) ?_)
    refine tr_cmp2 rfl (m32_of (by omega)) (m32_of (by omega)) (fun c2 => ?_) (fun c2 => ?_)
    · iterate 1 (refine tr_mv rfl (fun _ => rfl) ?_)
      exact tr_rb0 rfl (by omega) K
    · have hv := ho x.toNat (by omega)
      iterate 1 (refine tr_mv rfl (fun _ => rfl) ?_)
      refine tr_gr rfl (T_O ht) (by decide) (T_p10 ht) ?_
      iterate 1 (refine tr_mv rfl (fun _ => rfl) ?_)
      refine tr_ia2 (m32_of hx) (by omega) rfl (fun _ => rfl) (T_opt ht) (by omega) (T_optC ht) (mPtr_arr (T_opt ht) (by decide)) ?_
      refine tr_if2 rfl (m32_of (by omega)) (fun c3 => ?_) (fun c3 => ?_)
      · iterate 1 (refine tr_mv rfl (fun _ => rfl) ?_)
        exact tr_rb0 rfl (fun g => by omega) K
      · iterate 2 (refine tr_mv rfl (fun _ => rfl) ?_)
        exact tr_rb1 rfl (by omega) K
theorem s_109 (ht : isT t) (hx : 0 ≤ x ∧ x < 3) (hy : y = 0 ∨ y = 1) (K : post (.inl none) (setF σ (t + 21) x.toNat y)) : Tr Ls N 109 0 [some (mP (some t)), some (mI x), some (mI y)] [] σ post := by
  iterate 1 (refine tr_mv rfl (fun _ => rfl) ?_)
  refine tr_if2 rfl (m32_of (by omega)) (fun c1 => absurd c1 (by show ¬ x < 0; omega)) (fun _ => ?_)
  iterate 2 (refine tr_mv rfl (fun _ => rfl) ?_)
  refine tr_cmp2 rfl (m32_of (by omega)) (m32_of (x := 3) ⟨by decide, by decide⟩) (fun c1 => absurd c1 (by show ¬ (3 : Int) ≤ x; omega)) (fun _ => ?_)
  iterate 1 (refine tr_mv rfl (fun _ => rfl) ?_)
  refine tr_gr rfl (T_O ht) (by decide) (T_p10 ht) ?_
  iterate 2 (refine tr_mv rfl (fun _ => rfl) ?_)
  refine tr_is2 (kd := 1) (nn := 3) (m32_of (by omega)) (by omega) rfl (fun h => by simp only [mstep]; rw [if_pos hy]) (T_opt ht) (by omega) (T_optC ht) (mPtr_arr (T_opt ht) (by decide)) ?_
  exact tr_ret rfl (fun _ => rfl) K
end OPT
