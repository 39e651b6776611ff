/-! The helpers of both sides: signs, classes, codes. -/
abbrev isLet (x : Int) : Prop := 0 ≤ x ∧ x < 24
abbrev isMrk (x : Int) : Prop := 24 ≤ x ∧ x < 28
abbrev isDig (x : Int) : Prop := 30 ≤ x ∧ x < 40
abbrev isBlk (x : Int) : Prop := x = 28 ∨ x = 29
def clsOf (x : Int) : Int := if 24 ≤ x ∧ x < 28 then (if x < 26 then 1 else x - 24) else 0
def sgIn (c : Int) : Int := if c ≤ 0 then 0 else if c < 100 then 1 else if c < 10000 then 2 else 3
/-- the sign at the place k of a code -/
def sgAt (c k : Int) : Int := (if sgIn c - 1 - k = 2 then c / 10000 else if sgIn c - 1 - k = 1 then c / 100 else c) % 100 - 1
section HELP
variable {Ls N N1 N2 k pc n nn b c t a q : Nat} {L L0 : mLs} {st r as : List mV} {h h' : mH} {σ : Sg} {post : tP} {x y z x' y' i : Int} {xs : List Int} {e : mE}
theorem tr_ri (he : mPg.1 k pc = some (.ireturn, n, a, b, 0)) (hx : x = x') (K : post (.inl (some (mI x'))) σ) : Tr Ls N k pc L [mI x] σ post :=
  tr_reti he (Or.inl rfl) (by rw [hx]; exact K)
theorem s_175 (hx : in32 x) (K : post (.inl (some (mI (b2 (1 ≤ x ∧ x ≤ 4))))) σ) : Tr Ls N 175 0 [some (mI x)] [] σ post := by
  repeat' (first | exact tr_rb1 rfl (by omega) K | exact tr_rb0 rfl (by omega) K | exact tr_ri rfl (by omega) K | refine tr_mv rfl (fun _ => rfl) ?_ | refine tr_cmp2 rfl (m32_of (by omega)) (m32_of (by omega)) (fun _ => ?_) (fun _ => ?_) | refine tr_if2 rfl (m32_of (by omega)) (fun _ => ?_) (fun _ => ?_))
theorem s_176 (hx : in32 x) (K : post (.inl (some (mI (b2 (1 ≤ x ∧ x ≤ 999))))) σ) : Tr Ls N 176 0 [some (mI x)] [] σ post := by
  repeat' (first | exact tr_rb1 rfl (by omega) K | exact tr_rb0 rfl (by omega) K | exact tr_ri rfl (by omega) K | refine tr_mv rfl (fun _ => rfl) ?_ | refine tr_cmp2 rfl (m32_of (by omega)) (m32_of (by omega)) (fun _ => ?_) (fun _ => ?_) | refine tr_if2 rfl (m32_of (by omega)) (fun _ => ?_) (fun _ => ?_))
theorem s_177 (hx : in32 x) (K : post (.inl (some (mI (b2 (4 ≤ x ∧ x ≤ 40))))) σ) : Tr Ls N 177 0 [some (mI x)] [] σ post := by
  repeat' (first | exact tr_rb1 rfl (by omega) K | exact tr_rb0 rfl (by omega) K | exact tr_ri rfl (by omega) K | refine tr_mv rfl (fun _ => rfl) ?_ | refine tr_cmp2 rfl (m32_of (by omega)) (m32_of (by omega)) (fun _ => ?_) (fun _ => ?_) | refine tr_if2 rfl (m32_of (by omega)) (fun _ => ?_) (fun _ => ?_))
theorem s_178 (hx : in32 x) (K : post (.inl (some (mI (b2 (isLet x))))) σ) : Tr Ls N 178 0 [some (mI x)] [] σ post := by
  repeat' (first | exact tr_rb1 rfl (by omega) K | exact tr_rb0 rfl (by omega) K | exact tr_ri rfl (by omega) K | refine tr_mv rfl (fun _ => rfl) ?_ | refine tr_cmp2 rfl (m32_of (by omega)) (m32_of (by omega)) (fun _ => ?_) (fun _ => ?_) | refine tr_if2 rfl (m32_of (by omega)) (fun _ => ?_) (fun _ => ?_))
theorem s_179 (hx : in32 x) (K : post (.inl (some (mI (b2 (isMrk x))))) σ) : Tr Ls N 179 0 [some (mI x)] [] σ post := by
  repeat' (first | exact tr_rb1 rfl (by omega) K | exact tr_rb0 rfl (by omega) K | exact tr_ri rfl (by omega) K | refine tr_mv rfl (fun _ => rfl) ?_ | refine tr_cmp2 rfl (m32_of (by omega)) (m32_of (by omega)) (fun _ => ?_) (fun _ => ?_) | refine tr_if2 rfl (m32_of (by omega)) (fun _ => ?_) (fun _ => ?_))
theorem s_180 (hx : in32 x) (K : post (.inl (some (mI (b2 (isBlk x))))) σ) : Tr Ls N 180 0 [some (mI x)] [] σ post := by
  repeat' (first | exact tr_rb1 rfl (by omega) K | exact tr_rb0 rfl (by omega) K | exact tr_ri rfl (by omega) K | refine tr_mv rfl (fun _ => rfl) ?_ | refine tr_cmp2 rfl (m32_of (by omega)) (m32_of (by omega)) (fun _ => ?_) (fun _ => ?_) | refine tr_if2 rfl (m32_of (by omega)) (fun _ => ?_) (fun _ => ?_))
theorem s_181 (hx : in32 x) (K : post (.inl (some (mI (b2 (isDig x))))) σ) : Tr Ls N 181 0 [some (mI x)] [] σ post := by
  repeat' (first | exact tr_rb1 rfl (by omega) K | exact tr_rb0 rfl (by omega) K | exact tr_ri rfl (by omega) K | refine tr_mv rfl (fun _ => rfl) ?_ | refine tr_cmp2 rfl (m32_of (by omega)) (m32_of (by omega)) (fun _ => ?_) (fun _ => ?_) | refine tr_if2 rfl (m32_of (by omega)) (fun _ => ?_) (fun _ => ?_))
theorem s_185 (K : post (.inl (some (mI (x + 1)))) σ) : Tr Ls N 185 0 [some (mI x)] [] σ post := by
  repeat' (first | exact tr_rb1 rfl (by omega) K | exact tr_rb0 rfl (by omega) K | exact tr_ri rfl (by omega) K | refine tr_mv rfl (fun _ => rfl) ?_ | refine tr_cmp2 rfl (m32_of (by omega)) (m32_of (by omega)) (fun _ => ?_) (fun _ => ?_) | refine tr_if2 rfl (m32_of (by omega)) (fun _ => ?_) (fun _ => ?_))
theorem s_186 (hx : in32 x) (K : post (.inl (some (mI (sgIn x)))) σ) : Tr Ls N 186 0 [some (mI x)] [] σ post := by
  unfold sgIn at K
  repeat' (first | exact tr_rb1 rfl (by omega) K | exact tr_rb0 rfl (by omega) K | exact tr_ri rfl (by omega) K | refine tr_mv rfl (fun _ => rfl) ?_ | refine tr_cmp2 rfl (m32_of (by omega)) (m32_of (by omega)) (fun _ => ?_) (fun _ => ?_) | refine tr_if2 rfl (m32_of (by omega)) (fun _ => ?_) (fun _ => ?_))
theorem s_182 (hx : in32 x) (K : post (.inl (some (mI (clsOf x)))) σ) : Tr Ls N 182 0 [some (mI x)] [] σ post := by
  unfold clsOf at K
  repeat (first | (refine tr_rem ?_ ?_ rfl ?_; omega; omega) | (refine tr_div ?_ ?_ rfl ?_; omega; omega) | refine tr_mv rfl (fun _ => rfl) ?_ | refine tr_gr rfl ⟨by decide, rfl⟩ (by decide) rfl ?_ | refine tr_gi rfl (by decide) ⟨by decide, rfl⟩ (by decide) rfl rfl ?_ | refine tr_gr rfl (by assumption) (by decide) (by assumption) ?_ | refine tr_gi rfl (by decide) (by assumption) (by decide) (by assumption) (by assumption) ?_)
  refine tr_stat rfl rfl rfl (s_179 hx ?_)
  first | refine tr_ib rfl (fun c1 => ?_) (fun c1 => ?_) | refine tr_ibn rfl (fun c1 => ?_) (fun c1 => ?_)
  · rw [if_neg c1] at K
    repeat (first | (refine tr_rem ?_ ?_ rfl ?_; omega; omega) | (refine tr_div ?_ ?_ rfl ?_; omega; omega) | refine tr_mv rfl (fun _ => rfl) ?_ | refine tr_gr rfl ⟨by decide, rfl⟩ (by decide) rfl ?_ | refine tr_gi rfl (by decide) ⟨by decide, rfl⟩ (by decide) rfl rfl ?_ | refine tr_gr rfl (by assumption) (by decide) (by assumption) ?_ | refine tr_gi rfl (by decide) (by assumption) (by decide) (by assumption) (by assumption) ?_)
    exact tr_reti rfl (Or.inl rfl) K
  · rw [if_pos c1] at K
    repeat (first | (refine tr_rem ?_ ?_ rfl ?_; omega; omega) | (refine tr_div ?_ ?_ rfl ?_; omega; omega) | refine tr_mv rfl (fun _ => rfl) ?_ | refine tr_gr rfl ⟨by decide, rfl⟩ (by decide) rfl ?_ | refine tr_gi rfl (by decide) ⟨by decide, rfl⟩ (by decide) rfl rfl ?_ | refine tr_gr rfl (by assumption) (by decide) (by assumption) ?_ | refine tr_gi rfl (by decide) (by assumption) (by decide) (by assumption) (by assumption) ?_)
    have e1 : m32 (x - 24) = x - 24 := m32_of (by omega)
    refine tr_ia (kd := 0) (nn := 4) (by rw [e1]; omega) rfl (fun _ => rfl) rfl (by decide) (by decide) (fun _ => rfl) ?_
    rw [e1]
    refine tr_fact fun ⟨h0, hr⟩ => ?_
    rw [hr.2.2.2.2.2 _ (show (x - 24).toNat < 4 by omega)]
    repeat (first | (refine tr_rem ?_ ?_ rfl ?_; omega; omega) | (refine tr_div ?_ ?_ rfl ?_; omega; omega) | refine tr_mv rfl (fun _ => rfl) ?_ | refine tr_gr rfl ⟨by decide, rfl⟩ (by decide) rfl ?_ | refine tr_gi rfl (by decide) ⟨by decide, rfl⟩ (by decide) rfl rfl ?_ | refine tr_gr rfl (by assumption) (by decide) (by assumption) ?_ | refine tr_gi rfl (by decide) (by assumption) (by decide) (by assumption) (by assumption) ?_)
    refine tr_ri rfl ?_ K
    rcases (show x = 24 ∨ x = 25 ∨ x = 26 ∨ x = 27 by omega) with rfl | rfl | rfl | rfl <;> rfl
theorem s_183 (hx : 0 ≤ x ∧ x < 2147483648) (K : post (.inl (some (mI (x % 12 / 6)))) σ) : Tr Ls N 183 0 [some (mI x)] [] σ post := by
  repeat (first | (refine tr_rem ?_ ?_ rfl ?_; omega; omega) | (refine tr_div ?_ ?_ rfl ?_; omega; omega) | refine tr_mv rfl (fun _ => rfl) ?_ | refine tr_gr rfl ⟨by decide, rfl⟩ (by decide) rfl ?_ | refine tr_gi rfl (by decide) ⟨by decide, rfl⟩ (by decide) rfl rfl ?_ | refine tr_gr rfl (by assumption) (by decide) (by assumption) ?_ | refine tr_gi rfl (by decide) (by assumption) (by decide) (by assumption) (by assumption) ?_)
  exact tr_ri rfl rfl K
end HELP
