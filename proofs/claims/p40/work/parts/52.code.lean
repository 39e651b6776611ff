/-! The code of a part of a row. -/
section CODE
variable {Ls N N1 N2 k pc n n' nn b c t u a q : Nat} {L L0 : mLs} {st r as : List mV} {h h' : mH} {σ σ' σ'' : Sg} {post : tP} {x y z x' y' i i' s v m w f : Int} {xs ys : List Int} {e : mE}
theorem s_184_loop (ha : isRow a n) (f w : Int) (hw : 0 ≤ w ∧ w ≤ (σ.1 a).length) (hwl : (σ.1 a).length < 1000) : ∀ (rest done : List Int) (z : Int), (σ.1 a).take w.toNat = done ++ rest → post (.inl (some (mI (rest.foldl (fun c s => c * 100 + s + 1) z)))) σ → Tr Ls N 184 27 [some (mP (some a)), some (mI f), some (mI w), some (mI z), some (mI (done.length : Int))] [] σ post := by
  intro rest
  induction rest with
  | nil =>
    intro done z e K
    have hlen := congrArg List.length e
    rw [List.length_take, List.append_nil] at hlen
    iterate 2 (refine tr_mv rfl (fun _ => rfl) ?_)
    refine tr_cmp2 rfl (m32_of (by omega)) (m32_of (by omega)) (fun _ => ?_) (fun c1 => absurd (show w ≤ (done.length : Int) by omega) c1)
    iterate 1 (refine tr_mv rfl (fun _ => rfl) ?_)
    exact tr_ri rfl rfl K
  | cons y rest ih =>
    intro done z e K
    have hlen := congrArg List.length e
    have hl2 : (done ++ y :: rest).length = done.length + 1 + rest.length := by simp; omega
    rw [List.length_take, hl2] at hlen
    have hx : (σ.1 a)[done.length]? = some y := by
      have h1 : ((σ.1 a).take w.toNat)[done.length]? = some y := by rw [e]; simp
      rw [List.getElem?_take] at h1
      split at h1
      · exact h1
      · cases h1
    have hx2 : rget (σ.1 a) (done.length : Int) = y := by
      unfold rget
      rw [if_pos (by omega), Int.toNat_natCast, List.getD_eq_getElem?_getD, hx]
      rfl
    iterate 2 (refine tr_mv rfl (fun _ => rfl) ?_)
    refine tr_cmp2 rfl (m32_of (by omega)) (m32_of (by omega)) (fun c1 => absurd c1 (by show ¬ _ ≤ _; omega)) (fun _ => ?_)
    iterate 5 (refine tr_mv rfl (fun _ => rfl) ?_)
    refine tr_at2 ha (m32_of (by omega)) rfl rfl ?_
    rw [hx2]
    iterate 6 (refine tr_mv rfl (fun _ => rfl) ?_)
    show Tr Ls N 184 27 [some (mP (some a)), some (mI f), some (mI w), some (mI (z * 100 + y + 1)), some (mI ((done.length : Int) + 1))] [] σ post
    rw [show (done.length : Int) + 1 = ((done ++ [y]).length : Int) by simp]
    exact ih (done ++ [y]) _ (by rw [e]; simp) K
theorem s_184 (ha : isRow a n) (hf : 0 ≤ f ∧ f < 100000) (hw : 0 ≤ w ∧ w < 100000) (K : post (.inl (some (mI (if w ≤ f ∨ 3 < w - f ∨ ((σ.1 a).length : Int) < w then -1 else cdL (((σ.1 a).take w.toNat).drop f.toNat))))) σ) : Tr Ls N 184 0 [some (mP (some a)), some (mI f), some (mI w), none, none] [] σ post := by
  refine tr_fact fun ⟨h0, hr⟩ => ?_
  have hla := rep_len hr ha
  have hsm := isRow_small ha
  have h20 : (w ≤ f ∨ 3 < w - f ∨ ((σ.1 a).length : Int) < w) → Tr Ls N 184 20 [some (mP (some a)), some (mI f), some (mI w), none, none] [] σ post := by
    intro g
    rw [if_pos g] at K
    iterate 1 (refine tr_mv rfl (fun _ => rfl) ?_)
    exact tr_ri rfl rfl K
  iterate 2 (refine tr_mv rfl (fun _ => rfl) ?_)
  refine tr_cmp2 rfl (m32_of (by omega)) (m32_of (by omega)) (fun c1 => ?_) (fun c1 => ?_)
  · exact h20 (by omega)
  · iterate 4 (refine tr_mv rfl (fun _ => rfl) ?_)
    refine tr_cmp2 rfl (m32_of (by omega)) (m32_of (by omega)) (fun c2 => ?_) (fun c2 => ?_)
    · exact h20 (by omega)
    · iterate 2 (refine tr_mv rfl (fun _ => rfl) ?_)
      refine tr_size ha rfl rfl ?_
      refine tr_cmp2 rfl (m32_of (by omega)) (m32_of (by omega)) (fun c3 => ?_) (fun c3 => ?_)
      · rw [if_neg (by omega)] at K
        iterate 4 (refine tr_mv rfl (fun _ => rfl) ?_)
        have hlen : (((σ.1 a).take w.toNat).take f.toNat).length = f.toNat := by
          rw [List.length_take, List.length_take]
          omega
        have h9 := s_184_loop (Ls := Ls) (N := N) (post := post) ha f w (by omega) (by omega) (((σ.1 a).take w.toNat).drop f.toNat) (((σ.1 a).take w.toNat).take f.toNat) 0 (List.take_append_drop _ _).symm K
        rw [hlen, show ((f.toNat : Nat) : Int) = f by omega] at h9
        exact h9
      · exact h20 (by omega)
end CODE
