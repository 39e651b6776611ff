/-! The class Pins: its small methods. -/
theorem r_104 : isRow 104 6 := ⟨by decide, by decide +kernel, by decide +kernel⟩
theorem r_106 : isRow 106 6 := ⟨by decide, by decide +kernel, by decide +kernel⟩
section PINS
variable {Ls N N1 N2 k pc n n' nn b c t u a q : Nat} {L L0 : mLs} {st r as : List mV} {h h' : mH} {σ σ' σ'' : Sg} {post : tP} {x y z x' y' i i' s v m w f : Int} {xs ys : List Int} {e : mE}
theorem s_87 (K : post (.inl (some (mI (σ.1 104).length))) σ) : Tr Ls N 87 0 [some (mP (some 103))] [] σ post := by
  repeat (first | refine tr_gr rfl ⟨by decide, rfl⟩ (by decide) rfl ?_ | refine tr_gi rfl (by decide) ⟨by decide, rfl⟩ (by decide) rfl rfl ?_ | refine tr_gr rfl (by assumption) (by decide) (by assumption) ?_ | refine tr_gi rfl (by decide) (by assumption) (by decide) (by assumption) (by assumption) ?_ | (refine tr_rem ?_ ?_ rfl ?_; omega; omega) | (refine tr_div ?_ ?_ rfl ?_; omega; omega) | refine tr_mv rfl (fun _ => rfl) ?_ | refine tr_ia2 (m32_of (by omega)) (by omega) rfl (fun _ => rfl) rfl (by decide) (by decide) (fun _ => rfl) ?_ | refine tr_size (by assumption) rfl rfl ?_ | refine tr_at2 (by assumption) (m32_of (by omega)) rfl rfl ?_)
  refine tr_size r_104 rfl rfl ?_
  exact tr_ri rfl rfl K
theorem s_88 (hx : in32 x) (hy : in32 y) (K : post (.inl (some (mI (b2 (rget (σ.1 104) ((σ.1 104).length - 1) < x ∧ rget (σ.1 106) ((σ.1 106).length - 1) < y)))) ) σ) : Tr Ls N 88 0 [some (mP (some 103)), some (mI x), some (mI y)] [] σ post := by
  refine tr_fact fun ⟨h0, hr⟩ => ?_
  have l1 := rep_len hr r_104
  have l2 := rep_len hr r_106
  have g1 := rget_in (rep_in hr r_104) ((σ.1 104).length - 1)
  have g2 := rget_in (rep_in hr r_106) ((σ.1 106).length - 1)
  repeat (first | refine tr_gr rfl ⟨by decide, rfl⟩ (by decide) rfl ?_ | refine tr_gi rfl (by decide) ⟨by decide, rfl⟩ (by decide) rfl rfl ?_ | refine tr_gr rfl (by assumption) (by decide) (by assumption) ?_ | refine tr_gi rfl (by decide) (by assumption) (by decide) (by assumption) (by assumption) ?_ | (refine tr_rem ?_ ?_ rfl ?_; omega; omega) | (refine tr_div ?_ ?_ rfl ?_; omega; omega) | refine tr_mv rfl (fun _ => rfl) ?_ | refine tr_ia2 (m32_of (by omega)) (by omega) rfl (fun _ => rfl) rfl (by decide) (by decide) (fun _ => rfl) ?_ | refine tr_size (by assumption) rfl rfl ?_ | refine tr_at2 (by assumption) (m32_of (by omega)) rfl rfl ?_)
  refine tr_size r_104 rfl rfl ?_
  iterate 2 (refine tr_mv rfl (fun _ => rfl) ?_)
  refine tr_at2 r_104 (m32_of (by omega)) rfl rfl ?_
  refine tr_cmp2 rfl (m32_of (by omega)) (m32_of (by omega)) (fun c1 => ?_) (fun c1 => ?_)
  · iterate 1 (refine tr_mv rfl (fun _ => rfl) ?_)
    exact tr_rb0 rfl (fun g => absurd g.1 (by omega)) K
  · repeat (first | refine tr_gr rfl ⟨by decide, rfl⟩ (by decide) rfl ?_ | refine tr_gi rfl (by decide) ⟨by decide, rfl⟩ (by decide) rfl rfl ?_ | refine tr_gr rfl (by assumption) (by decide) (by assumption) ?_ | refine tr_gi rfl (by decide) (by assumption) (by decide) (by assumption) (by assumption) ?_ | (refine tr_rem ?_ ?_ rfl ?_; omega; omega) | (refine tr_div ?_ ?_ rfl ?_; omega; omega) | refine tr_mv rfl (fun _ => rfl) ?_ | refine tr_ia2 (m32_of (by omega)) (by omega) rfl (fun _ => rfl) rfl (by decide) (by decide) (fun _ => rfl) ?_ | refine tr_size (by assumption) rfl rfl ?_ | refine tr_at2 (by assumption) (m32_of (by omega)) rfl rfl ?_)
    refine tr_size r_106 rfl rfl ?_
    iterate 2 (refine tr_mv rfl (fun _ => rfl) ?_)
    refine tr_at2 r_106 (m32_of (by omega)) rfl rfl ?_
    refine tr_cmp2 rfl (m32_of (by omega)) (m32_of (by omega)) (fun c2 => ?_) (fun c2 => ?_)
    · iterate 1 (refine tr_mv rfl (fun _ => rfl) ?_)
      exact tr_rb0 rfl (fun g => absurd g.2 (by omega)) K
    · iterate 2 (refine tr_mv rfl (fun _ => rfl) ?_)
      exact tr_rb1 rfl ⟨by omega, by omega⟩ K
theorem s_89 (hx : in32 x) (hy : in32 y) (hl : (σ.1 104).length < 6 ∧ (σ.1 106).length < 6) (K : post (.inl none) (setR (setR σ 104 (σ.1 104 ++ [x])) 106 (σ.1 106 ++ [y]))) : Tr Ls N 89 0 [some (mP (some 103)), some (mI x), some (mI y)] [] σ post := by
  repeat (first | refine tr_gr rfl ⟨by decide, rfl⟩ (by decide) rfl ?_ | refine tr_gi rfl (by decide) ⟨by decide, rfl⟩ (by decide) rfl rfl ?_ | refine tr_gr rfl (by assumption) (by decide) (by assumption) ?_ | refine tr_gi rfl (by decide) (by assumption) (by decide) (by assumption) (by assumption) ?_ | (refine tr_rem ?_ ?_ rfl ?_; omega; omega) | (refine tr_div ?_ ?_ rfl ?_; omega; omega) | refine tr_mv rfl (fun _ => rfl) ?_ | refine tr_ia2 (m32_of (by omega)) (by omega) rfl (fun _ => rfl) rfl (by decide) (by decide) (fun _ => rfl) ?_ | refine tr_size (by assumption) rfl rfl ?_ | refine tr_at2 (by assumption) (m32_of (by omega)) rfl rfl ?_)
  refine tr_put r_104 hx rfl rfl ?_
  rw [rput_lt hl.1]
  repeat (first | refine tr_gr rfl ⟨by decide, rfl⟩ (by decide) rfl ?_ | refine tr_gi rfl (by decide) ⟨by decide, rfl⟩ (by decide) rfl rfl ?_ | refine tr_gr rfl (by assumption) (by decide) (by assumption) ?_ | refine tr_gi rfl (by decide) (by assumption) (by decide) (by assumption) (by assumption) ?_ | (refine tr_rem ?_ ?_ rfl ?_; omega; omega) | (refine tr_div ?_ ?_ rfl ?_; omega; omega) | refine tr_mv rfl (fun _ => rfl) ?_ | refine tr_ia2 (m32_of (by omega)) (by omega) rfl (fun _ => rfl) rfl (by decide) (by decide) (fun _ => rfl) ?_ | refine tr_size (by assumption) rfl rfl ?_ | refine tr_at2 (by assumption) (m32_of (by omega)) rfl rfl ?_)
  refine tr_put r_106 hy rfl rfl ?_
  rw [setR_ne _ _ (by decide), rput_lt hl.2]
  exact tr_ret rfl (fun _ => rfl) K
theorem s_90 (K : post (.inl none) (setR (setR σ 104 []) 106 [])) : Tr Ls N 90 0 [some (mP (some 103))] [] σ post := by
  repeat (first | refine tr_gr rfl ⟨by decide, rfl⟩ (by decide) rfl ?_ | refine tr_gi rfl (by decide) ⟨by decide, rfl⟩ (by decide) rfl rfl ?_ | refine tr_gr rfl (by assumption) (by decide) (by assumption) ?_ | refine tr_gi rfl (by decide) (by assumption) (by decide) (by assumption) (by assumption) ?_ | (refine tr_rem ?_ ?_ rfl ?_; omega; omega) | (refine tr_div ?_ ?_ rfl ?_; omega; omega) | refine tr_mv rfl (fun _ => rfl) ?_ | refine tr_ia2 (m32_of (by omega)) (by omega) rfl (fun _ => rfl) rfl (by decide) (by decide) (fun _ => rfl) ?_ | refine tr_size (by assumption) rfl rfl ?_ | refine tr_at2 (by assumption) (m32_of (by omega)) rfl rfl ?_)
  refine tr_clear r_104 rfl rfl ?_
  repeat (first | refine tr_gr rfl ⟨by decide, rfl⟩ (by decide) rfl ?_ | refine tr_gi rfl (by decide) ⟨by decide, rfl⟩ (by decide) rfl rfl ?_ | refine tr_gr rfl (by assumption) (by decide) (by assumption) ?_ | refine tr_gi rfl (by decide) (by assumption) (by decide) (by assumption) (by assumption) ?_ | (refine tr_rem ?_ ?_ rfl ?_; omega; omega) | (refine tr_div ?_ ?_ rfl ?_; omega; omega) | refine tr_mv rfl (fun _ => rfl) ?_ | refine tr_ia2 (m32_of (by omega)) (by omega) rfl (fun _ => rfl) rfl (by decide) (by decide) (fun _ => rfl) ?_ | refine tr_size (by assumption) rfl rfl ?_ | refine tr_at2 (by assumption) (m32_of (by omega)) rfl rfl ?_)
  refine tr_clear r_106 rfl rfl ?_
  exact tr_ret rfl (fun _ => rfl) K
end PINS
