/-! Row's append, copy and has; codes of rows; a code's signs. -/
def cdL (l : List Int) : Int := l.foldl (fun c s => c * 100 + s + 1) 0
section MORE
variable {Ls N N1 N2 k pc n n' nn b c t a q : Nat} {L L0 : mLs} {st r as : List mV} {h h' : mH} {σ σ' σ'' : Sg} {post : tP} {x y z x' y' i i' s v m w : Int} {xs ys : List Int} {e : mE} {C : Nat → Nat → Prop} {B M : Int → Int}
theorem s_104 (ha : isRow a n) (hx : in32 x) (K : post (.inl (some (mI (b2 (x ∈ σ.1 a))))) σ) : Tr Ls N 104 0 [some (mP (some a)), some (mI x)] [] σ post := by
  refine tr_fact fun ⟨h0, hr⟩ => ?_
  have hla := rep_len hr ha
  have hsm := isRow_small ha
  have hp : (rplace (σ.1 a) x = -1 ∧ x ∉ σ.1 a) ∨ (0 ≤ rplace (σ.1 a) x ∧ rplace (σ.1 a) x < 1000 ∧ x ∈ σ.1 a) := by
    unfold rplace
    cases hf : (σ.1 a).findIdx? (fun y => decide (y = x)) with
    | none =>
      refine Or.inl ⟨rfl, fun hm => ?_⟩
      have := List.findIdx?_eq_none_iff.mp hf x hm
      simp at this
    | some j =>
      obtain ⟨g1, g2, -⟩ := List.findIdx?_eq_some_iff_getElem.mp hf
      refine Or.inr ⟨Int.natCast_nonneg _, by show (j : Int) < 1000; omega, ?_⟩
      have : (σ.1 a)[j] = x := by simpa using g2
      rw [← this]
      exact List.getElem_mem _
  iterate 2 (refine tr_mv rfl (fun _ => rfl) ?_)
  refine tr_placeOf ha hx rfl rfl ?_
  iterate 1 (refine tr_mv rfl (fun _ => rfl) ?_)
  refine tr_cmp2 rfl (m32_of (by omega)) (m32_of (x := -1) ⟨by decide, by decide⟩) (fun c1 => ?_) (fun c1 => ?_)
  · iterate 1 (refine tr_mv rfl (fun _ => rfl) ?_)
    rcases hp with g | g
    · exact tr_rb0 rfl g.2 K
    · exact absurd c1 (by show ¬ _ = (-1 : Int); omega)
  · iterate 2 (refine tr_mv rfl (fun _ => rfl) ?_)
    rcases hp with g | g
    · exact absurd g.1 c1
    · exact tr_rb1 rfl g.2.2 K
theorem s_101_loop (ha : isRow a n) (hb : isRow b n') (hab : a ≠ b) (f t : Int) (ht : 0 ≤ t ∧ t < 2147483648) : ∀ (rest done : List Int) (σ : Sg), (σ.1 b).take t.toNat = done ++ rest → (σ.1 a).length + rest.length ≤ n → post (.inl none) (setR σ a (σ.1 a ++ rest)) →
    Tr Ls N 101 7 [some (mP (some a)), some (mP (some b)), some (mI f), some (mI t), some (mI (done.length : Int))] [] σ post := by
  intro rest
  induction rest with
  | nil =>
    intro done σ hs hl K
    refine tr_fact fun ⟨h0, hr⟩ => ?_
    have hlb := rep_len hr hb
    have hsm := isRow_small hb
    rw [List.append_nil, setR_self] at K
    have hlen := congrArg List.length hs
    rw [List.length_take, List.append_nil] at hlen
    iterate 2 (refine tr_mv rfl (fun _ => rfl) ?_)
    refine tr_cmp2 rfl (m32_of (by omega)) (m32_of (by omega)) (fun c1 => ?_) (fun c1 => ?_)
    · exact tr_ret rfl (fun _ => rfl) K
    · iterate 2 (refine tr_mv rfl (fun _ => rfl) ?_)
      refine tr_size hb rfl rfl ?_
      refine tr_cmp2 rfl (m32_of (by omega)) (m32_of (by omega)) (fun _ => ?_) (fun c2 => absurd (show ((σ.1 b).length : Int) ≤ (done.length : Int) by omega) c2)
      exact tr_ret rfl (fun _ => rfl) K
  | cons x rest ih =>
    intro done σ hs hl K
    refine tr_fact fun ⟨h0, hr⟩ => ?_
    have hlb := rep_len hr hb
    have hsm := isRow_small hb
    have hl2 : (x :: rest).length = rest.length + 1 := rfl
    have hlen := congrArg List.length hs
    have hlen2 : (done ++ x :: rest).length = done.length + 1 + rest.length := by simp; omega
    rw [List.length_take, hlen2] at hlen
    have hx : (σ.1 b)[done.length]? = some x := by
      have h1 : ((σ.1 b).take t.toNat)[done.length]? = some x := by rw [hs]; simp
      rw [List.getElem?_take] at h1
      split at h1
      · exact h1
      · cases h1
    have hx2 : rget (σ.1 b) (done.length : Int) = x := by
      unfold rget
      rw [if_pos (by omega), Int.toNat_natCast, List.getD_eq_getElem?_getD, hx]
      rfl
    have hxin : in32 x := rep_in hr hb x (List.mem_of_getElem? hx)
    iterate 2 (refine tr_mv rfl (fun _ => rfl) ?_)
    refine tr_cmp2 rfl (m32_of (by omega)) (m32_of (by omega)) (fun c1 => absurd c1 (by show ¬ _ ≤ _; omega)) (fun _ => ?_)
    iterate 2 (refine tr_mv rfl (fun _ => rfl) ?_)
    refine tr_size hb rfl rfl ?_
    refine tr_cmp2 rfl (m32_of (by omega)) (m32_of (by omega)) (fun c1 => absurd c1 (by show ¬ _ ≤ _; omega)) (fun _ => ?_)
    iterate 3 (refine tr_mv rfl (fun _ => rfl) ?_)
    refine tr_at2 hb (m32_of (by omega)) rfl rfl ?_
    rw [hx2]
    refine tr_put ha hxin rfl rfl ?_
    rw [rput_lt (by omega)]
    iterate 2 (refine tr_mv rfl (fun _ => rfl) ?_)
    show Tr Ls N 101 7 [some (mP (some a)), some (mP (some b)), some (mI f), some (mI t), some (mI ((done.length : Int) + 1))] [] _ post
    rw [show (done.length : Int) + 1 = ((done ++ [x]).length : Int) by simp]
    refine ih (done ++ [x]) _ (by rw [setR_ne _ _ (Ne.symm hab), hs]; simp) (by rw [setR_same]; simp; omega) ?_
    rw [setR_same, setR_setR]
    simpa using K
theorem s_101 {f t : Int} (ha : isRow a n) (hb : isRow b n') (hab : a ≠ b) (hf : 0 ≤ f ∧ f ≤ t ∧ t ≤ (σ.1 b).length) (hl : ((σ.1 a).length : Int) + (t - f) ≤ n) (K : post (.inl none) (setR σ a (σ.1 a ++ ((σ.1 b).take t.toNat).drop f.toNat))) :
    Tr Ls N 101 0 [some (mP (some a)), some (mP (some b)), some (mI f), some (mI t), none] [] σ post := by
  refine tr_fact fun ⟨h0, hr⟩ => ?_
  have hlb := rep_len hr hb
  have hsm := isRow_small hb
  iterate 2 (refine tr_mv rfl (fun _ => rfl) ?_)
  refine tr_stat rfl rfl rfl (s_329 (by omega) (by omega) ?_)
  rw [if_neg (by omega)]
  iterate 1 (refine tr_mv rfl (fun _ => rfl) ?_)
  have hlen : (((σ.1 b).take t.toNat).take f.toNat).length = f.toNat := by
    rw [List.length_take, List.length_take]
    omega
  have h9 := s_101_loop (Ls := Ls) (N := N) (post := post) ha hb hab f t (by omega) (((σ.1 b).take t.toNat).drop f.toNat) (((σ.1 b).take t.toNat).take f.toNat) σ (List.take_append_drop _ _).symm (by rw [List.length_drop, List.length_take]; omega) K
  rw [hlen, show ((f.toNat : Nat) : Int) = f by omega] at h9
  exact h9
theorem s_102 (ha : isRow a n) (hb : isRow b n') (hab : a ≠ b) (hl : (σ.1 b).length ≤ n) (K : post (.inl none) (setR σ a (σ.1 b))) : Tr Ls N 102 0 [some (mP (some a)), some (mP (some b))] [] σ post := by
  iterate 1 (refine tr_mv rfl (fun _ => rfl) ?_)
  refine tr_clear ha rfl rfl ?_
  iterate 4 (refine tr_mv rfl (fun _ => rfl) ?_)
  refine tr_size hb rfl rfl ?_
  rw [setR_ne _ _ (Ne.symm hab)]
  refine tr_vc (q := a) rfl ⟨ha.1, ha.2.1⟩ rfl rfl rfl (s_101 ha hb hab (by rw [setR_ne _ _ (Ne.symm hab)]; omega) (by rw [setR_same]; simp; omega) ?_)
  rw [setR_same, setR_setR, setR_ne _ _ (Ne.symm hab)]
  refine tr_ret rfl (fun _ => rfl) ?_
  simpa using K
theorem cdL_in : ∀ (l : List Int), l.length ≤ 3 → (∀ y ∈ l, -1 ≤ y ∧ y < 100) → 0 ≤ cdL l ∧ cdL l < 1010101
  | [], _, _ => ⟨by decide, by decide⟩
  | [x], _, h => by
    have h1 := h x (by simp)
    show 0 ≤ (0 : Int) * 100 + x + 1 ∧ (0 : Int) * 100 + x + 1 < _
    omega
  | [x, y], _, h => by
    have h1 := h x (by simp)
    have h2 := h y (by simp)
    show 0 ≤ ((0 : Int) * 100 + x + 1) * 100 + y + 1 ∧ ((0 : Int) * 100 + x + 1) * 100 + y + 1 < _
    omega
  | [x, y, z], _, h => by
    have h1 := h x (by simp)
    have h2 := h y (by simp)
    have h3 := h z (by simp)
    show 0 ≤ (((0 : Int) * 100 + x + 1) * 100 + y + 1) * 100 + z + 1 ∧ (((0 : Int) * 100 + x + 1) * 100 + y + 1) * 100 + z + 1 < _
    omega
  | x :: y :: z :: u :: l, h, _ => by
    simp at h
theorem s_187 (hc : 0 < w ∧ w < 1010101) (hx : 0 ≤ x ∧ x < sgIn w) (K : post (.inl (some (mI (sgAt w x)))) σ) : Tr Ls N 187 0 [some (mI w), some (mI x), none, none] [] σ post := by
  have hs : (sgIn w = 1 ∨ sgIn w = 2 ∨ sgIn w = 3) := by unfold sgIn; split <;> (try split) <;> (try split) <;> omega
  unfold sgAt at K
  iterate 3 (refine tr_mv rfl (fun _ => rfl) ?_)
  refine tr_stat rfl rfl rfl (s_186 (by omega) ?_)
  iterate 3 (refine tr_mv rfl (fun _ => rfl) ?_)
  have hend : ∀ (u j : Int), 0 ≤ u → u < 1010101 → in32 j → j ≤ x → u = (if sgIn w - 1 - x = 2 then w / 10000 else if sgIn w - 1 - x = 1 then w / 100 else w) → Tr Ls N 187 9 [some (mI w), some (mI x), some (mI u), some (mI j)] [] σ post := by
    intro u j h1 h2 h3 h4 h5
    rw [← h5] at K
    iterate 2 (refine tr_mv rfl (fun _ => rfl) ?_)
    refine tr_cmp2 rfl (m32_of (by omega)) (m32_of (by omega)) (fun _ => ?_) (fun c1 => absurd h4 c1)
    repeat (first | (refine tr_rem ?_ ?_ rfl ?_; omega; omega) | (refine tr_div ?_ ?_ rfl ?_; omega; omega) | refine tr_mv rfl (fun _ => rfl) ?_ | refine tr_gr rfl ⟨by decide, rfl⟩ (by decide) rfl ?_ | refine tr_gi rfl (by decide) ⟨by decide, rfl⟩ (by decide) rfl rfl ?_ | refine tr_gr rfl (by assumption) (by decide) (by assumption) ?_ | refine tr_gi rfl (by decide) (by assumption) (by decide) (by assumption) (by assumption) ?_)
    exact tr_ri rfl rfl K
  have hstep : ∀ (u j : Int), 0 ≤ u → u < 1010101 → in32 j → x < j → Tr Ls N 187 9 [some (mI w), some (mI x), some (mI (u / 100)), some (mI (j + -1))] [] σ post → Tr Ls N 187 9 [some (mI w), some (mI x), some (mI u), some (mI j)] [] σ post := by
    intro u j h1 h2 h3 h4 K'
    iterate 2 (refine tr_mv rfl (fun _ => rfl) ?_)
    refine tr_cmp2 rfl (m32_of (by omega)) (m32_of (by omega)) (fun c1 => absurd c1 (by show ¬ _ ≤ _; omega)) (fun _ => ?_)
    iterate 2 (refine tr_mv rfl (fun _ => rfl) ?_)
    refine tr_div ?_ ?_ rfl ?_
    · omega
    · omega
    iterate 3 (refine tr_mv rfl (fun _ => rfl) ?_)
    exact K'
  have hj : Tr Ls N 187 9 [some (mI w), some (mI x), some (mI w), some (mI (sgIn w - 1))] [] σ post := by
    by_cases h1 : sgIn w - 1 - x = 2
    · refine hstep w _ (by omega) (by omega) (by omega) (by omega) ?_
      refine hstep (w / 100) _ (by omega) (by omega) (by omega) (by omega) ?_
      exact hend (w / 100 / 100) _ (by omega) (by omega) (by omega) (by omega) (by rw [if_pos h1]; omega)
    · by_cases h2 : sgIn w - 1 - x = 1
      · refine hstep w _ (by omega) (by omega) (by omega) (by omega) ?_
        exact hend (w / 100) _ (by omega) (by omega) (by omega) (by omega) (by rw [if_neg h1, if_pos h2])
      · exact hend w _ (by omega) (by omega) (by omega) (by omega) (by rw [if_neg h1, if_neg h2])
  exact hj
end MORE
