/-! Which sign is composed of two. -/
/-- the first sign of a list that is composed of b and m -/
def cofL (B M : Int → Int) (b m : Int) : List Int → Int
  | [] => -1
  | s :: l => if B s = b ∧ M s = m then s else cofL B M b m l
def cof (B M : Int → Int) (b m : Int) : Int := cofL B M b m [40, 41, 42, 43, 44, 45, 46, 47]
/-- no two signs are composed alike -/
def injB (B M : Int → Int) : Prop := ∀ s s', 40 ≤ s → s < 48 → 40 ≤ s' → s' < 48 → B s ≠ -1 → B s = B s' → M s = M s' → s = s'
theorem cofL_or (B M : Int → Int) (b m : Int) : ∀ l, cofL B M b m l = -1 ∨ (cofL B M b m l ∈ l ∧ B (cofL B M b m l) = b ∧ M (cofL B M b m l) = m)
  | [] => Or.inl rfl
  | s :: l => by
    unfold cofL
    split
    · rename_i h
      exact Or.inr ⟨List.mem_cons_self, h.1, h.2⟩
    · rcases cofL_or B M b m l with g | g
      · exact Or.inl g
      · exact Or.inr ⟨List.mem_cons_of_mem _ g.1, g.2⟩
theorem cof_or (B M : Int → Int) (b m : Int) : cof B M b m = -1 ∨ (40 ≤ cof B M b m ∧ cof B M b m < 48 ∧ B (cof B M b m) = b ∧ M (cof B M b m) = m) := by
  rcases cofL_or B M b m [40, 41, 42, 43, 44, 45, 46, 47] with g | g
  · exact Or.inl g
  · refine Or.inr ⟨?_, ?_, g.2.1, g.2.2⟩
    · have := g.1
      simp only [List.mem_cons, List.not_mem_nil, or_false] at this
      unfold cof
      omega
    · have := g.1
      simp only [List.mem_cons, List.not_mem_nil, or_false] at this
      unfold cof
      omega
section COF
variable {Ls N N1 N2 k pc n n' nn b c t a q : Nat} {L L0 : mLs} {st r as : List mV} {h h' : mH} {σ σ' σ'' : Sg} {post : tP} {x y z x' y' i i' s v m w : Int} {xs ys : List Int} {e : mE} {C : Nat → Nat → Prop}
theorem s_19_loop (hx : in32 x) (hm : in32 m) (hB : ∀ s, in32 (bOf σ s)) (hM : ∀ s, in32 (kOf σ s)) : ∀ (l : List Int) (d : Nat), l = (List.range d).map (fun j => ((48 - d + j : Nat) : Int)) → d ≤ 8 → post (.inl (some (mI (cofL (bOf σ) (kOf σ) x m l)))) σ → Tr Ls N 19 3 [some (mP (some 3)), some (mI x), some (mI m), some (mI ((48 - d : Nat) : Int))] [] σ post := by
  intro l
  induction l with
  | nil =>
    intro d hl hd K
    have hd0 : d = 0 := by
      have := congrArg List.length hl
      simpa using this.symm
    subst hd0
    repeat (first | refine tr_gr rfl ⟨by decide, rfl⟩ (by decide) rfl ?_ | refine tr_gi rfl (by decide) ⟨by decide, rfl⟩ (by decide) rfl rfl ?_ | refine tr_gr rfl (by assumption) (by decide) (by assumption) ?_ | refine tr_gi rfl (by decide) (by assumption) (by decide) (by assumption) (by assumption) ?_ | (refine tr_rem ?_ ?_ rfl ?_; omega; omega) | (refine tr_div ?_ ?_ rfl ?_; omega; omega) | refine tr_mv rfl (fun _ => rfl) ?_ | refine tr_ia2 (m32_of (by omega)) (by omega) rfl (fun _ => rfl) rfl (by decide) (by decide) (fun _ => rfl) ?_ | refine tr_size (by assumption) rfl rfl ?_ | refine tr_at2 (by assumption) (m32_of (by omega)) rfl rfl ?_)
    exact tr_ri rfl rfl K
  | cons s l ih =>
    intro d hl hd K
    have hd0 : d = l.length + 1 := by
      have := congrArg List.length hl
      simpa using this.symm
    subst hd0
    have hs : s = ((48 - (l.length + 1) : Nat) : Int) := by
      have := congrArg List.head? hl
      simpa [List.range_succ_eq_map] using this
    have hl' : l = (List.range l.length).map (fun j => ((48 - l.length + j : Nat) : Int)) := by
      have := congrArg List.tail hl
      rw [List.tail_cons, List.range_succ_eq_map, List.map_cons, List.tail_cons, List.map_map] at this
      refine this.trans ?_
      apply List.map_congr_left
      intro j hj
      show ((48 - (l.length + 1) + (j + 1) : Nat) : Int) = ((48 - l.length + j : Nat) : Int)
      omega
    have hin : 0 ≤ s ∧ s < 48 := by omega
    have eb : bOf σ s = σ.2 4 s.toNat := if_pos hin
    have ek : kOf σ s = σ.2 5 s.toNat := if_pos hin
    have hb9 := hB s
    have hm9 := hM s
    rw [← hs]
    unfold cofL at K
    iterate 2 (refine tr_mv rfl (fun _ => rfl) ?_)
    refine tr_cmp2 rfl (m32_of (by omega)) (m32_of (x := 48) ⟨by decide, by decide⟩) (fun c1 => absurd c1 (by show ¬ (48 : Int) ≤ s; omega)) (fun _ => ?_)
    repeat (first | refine tr_gr rfl ⟨by decide, rfl⟩ (by decide) rfl ?_ | refine tr_gi rfl (by decide) ⟨by decide, rfl⟩ (by decide) rfl rfl ?_ | refine tr_gr rfl (by assumption) (by decide) (by assumption) ?_ | refine tr_gi rfl (by decide) (by assumption) (by decide) (by assumption) (by assumption) ?_ | (refine tr_rem ?_ ?_ rfl ?_; omega; omega) | (refine tr_div ?_ ?_ rfl ?_; omega; omega) | refine tr_mv rfl (fun _ => rfl) ?_ | refine tr_ia2 (m32_of (by omega)) (by omega) rfl (fun _ => rfl) rfl (by decide) (by decide) (fun _ => rfl) ?_ | refine tr_size (by assumption) rfl rfl ?_ | refine tr_at2 (by assumption) (m32_of (by omega)) rfl rfl ?_)
    rw [← eb]
    have hnext : post (.inl (some (mI (cofL (bOf σ) (kOf σ) x m l)))) σ → Tr Ls N 19 31 [some (mP (some 3)), some (mI x), some (mI m), some (mI s)] [] σ post := by
      intro K'
      iterate 2 (refine tr_mv rfl (fun _ => rfl) ?_)
      show Tr Ls N 19 3 [some (mP (some 3)), some (mI x), some (mI m), some (mI (s + 1))] [] σ post
      rw [show s + 1 = ((48 - l.length : Nat) : Int) by omega]
      exact ih l.length hl' (by omega) K'
    refine tr_cmp2 rfl (m32_of (by omega)) (m32_of (by omega)) (fun c1 => ?_) (fun c1 => ?_)
    · rw [if_neg (fun g => c1 g.1)] at K
      exact hnext K
    · repeat (first | refine tr_gr rfl ⟨by decide, rfl⟩ (by decide) rfl ?_ | refine tr_gi rfl (by decide) ⟨by decide, rfl⟩ (by decide) rfl rfl ?_ | refine tr_gr rfl (by assumption) (by decide) (by assumption) ?_ | refine tr_gi rfl (by decide) (by assumption) (by decide) (by assumption) (by assumption) ?_ | (refine tr_rem ?_ ?_ rfl ?_; omega; omega) | (refine tr_div ?_ ?_ rfl ?_; omega; omega) | refine tr_mv rfl (fun _ => rfl) ?_ | refine tr_ia2 (m32_of (by omega)) (by omega) rfl (fun _ => rfl) rfl (by decide) (by decide) (fun _ => rfl) ?_ | refine tr_size (by assumption) rfl rfl ?_ | refine tr_at2 (by assumption) (m32_of (by omega)) rfl rfl ?_)
      rw [← ek]
      refine tr_cmp2 rfl (m32_of (by omega)) (m32_of (by omega)) (fun c2 => ?_) (fun c2 => ?_)
      · rw [if_neg (fun g => c2 g.2)] at K
        exact hnext K
      · rw [if_pos (by omega)] at K
        repeat (first | refine tr_gr rfl ⟨by decide, rfl⟩ (by decide) rfl ?_ | refine tr_gi rfl (by decide) ⟨by decide, rfl⟩ (by decide) rfl rfl ?_ | refine tr_gr rfl (by assumption) (by decide) (by assumption) ?_ | refine tr_gi rfl (by decide) (by assumption) (by decide) (by assumption) (by assumption) ?_ | (refine tr_rem ?_ ?_ rfl ?_; omega; omega) | (refine tr_div ?_ ?_ rfl ?_; omega; omega) | refine tr_mv rfl (fun _ => rfl) ?_ | refine tr_ia2 (m32_of (by omega)) (by omega) rfl (fun _ => rfl) rfl (by decide) (by decide) (fun _ => rfl) ?_ | refine tr_size (by assumption) rfl rfl ?_ | refine tr_at2 (by assumption) (m32_of (by omega)) rfl rfl ?_)
        exact tr_ri rfl rfl K
theorem s_19 (hx : in32 x) (hm : in32 m) (hB : ∀ s, in32 (bOf σ s)) (hM : ∀ s, in32 (kOf σ s)) (K : post (.inl (some (mI (cof (bOf σ) (kOf σ) x m)))) σ) : Tr Ls N 19 0 [some (mP (some 3)), some (mI x), some (mI m), none] [] σ post := by
  iterate 2 (refine tr_mv rfl (fun _ => rfl) ?_)
  exact s_19_loop hx hm hB hM _ 8 rfl (Nat.le_refl _) K
end COF
