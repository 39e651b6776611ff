/-! The model's severalOf. -/
section MTAIL2
variable {Ls N N1 N2 k pc n n' nn b c t a q T : Nat} {L L0 : mLs} {st r as : List mV} {h h' : mH} {σ σ' σ'' : Sg} {post : tP} {x y z x' y' i i' s v m w : Int} {xs ys : List Int} {e : mE} {C : Nat → Nat → Prop} {B M : Int → Int} {R : Nat → Prop}
theorem s_233_loop (hT : T < 4) (hx : in32 x) (hc : σ.2 498 T = (xs.length : Int)) (hl : xs.length ≤ 12) (hs : mseg σ 496 (12 * T) xs) (hin : ∀ y ∈ xs, in32 y) : ∀ (rest done : List Int) (f : Int), xs = done ++ rest → in32 f → post (.inl (some (mI (rl x f done.length rest)))) σ → Tr Ls N 233 5 [some (mP (some 480)), some (mI (T : Int)), some (mI x), some (mI f), some (mI (done.length : Int))] [] σ post := by
  intro rest
  induction rest with
  | nil =>
    intro done f e hf K
    have hlen := congrArg List.length e
    simp only [List.append_nil] at hlen
    iterate 2 (refine tr_mv rfl (fun _ => rfl) ?_)
    refine tr_mgr rfl (by decide) rfl ?_
    iterate 1 (refine tr_mv rfl (fun _ => rfl) ?_)
    refine tr_ma (i' := (T : Int)) rfl (m32_of (by omega)) (by omega) rfl (fun _ => rfl) rfl rfl ?_
    rw [Int.toNat_natCast, hc]
    refine tr_cmp2 rfl (m32_of (by omega)) (m32_of (by omega)) (fun _ => ?_) (fun c1 => absurd (show (xs.length : Int) ≤ (done.length : Int) by omega) c1)
    iterate 1 (refine tr_mv rfl (fun _ => rfl) ?_)
    exact tr_ri rfl rfl K
  | cons z rest ih =>
    intro done f e hf K
    have hlen := congrArg List.length e
    have hl2 : (done ++ z :: rest).length = done.length + 1 + rest.length := by simp; omega
    rw [hl2] at hlen
    have hz : in32 z := hin z (by rw [e]; simp)
    have hv : σ.2 496 (12 * T + done.length) = z := by
      rw [hs done.length (by omega), e, List.getD_eq_getElem?_getD]
      simp
    unfold rl at K
    iterate 2 (refine tr_mv rfl (fun _ => rfl) ?_)
    refine tr_mgr rfl (by decide) rfl ?_
    iterate 1 (refine tr_mv rfl (fun _ => rfl) ?_)
    refine tr_ma (i' := (T : Int)) rfl (m32_of (by omega)) (by omega) rfl (fun _ => rfl) rfl rfl ?_
    rw [Int.toNat_natCast, hc]
    refine tr_cmp2 rfl (m32_of (by omega)) (m32_of (by omega)) (fun c1 => absurd c1 (by show ¬ _ ≤ _; omega)) (fun _ => ?_)
    iterate 1 (refine tr_mv rfl (fun _ => rfl) ?_)
    refine tr_mgr rfl (by decide) rfl ?_
    iterate 5 (refine tr_mv rfl (fun _ => rfl) ?_)
    refine tr_ma (i' := ((12 * T + done.length : Nat) : Int)) rfl (m32_of (by omega)) (by omega) rfl (fun _ => rfl) rfl rfl ?_
    rw [Int.toNat_natCast, hv]
    iterate 1 (refine tr_mv rfl (fun _ => rfl) ?_)
    have hnext : ∀ f', in32 f' → f' = (if z = x then (done.length : Int) else f) → Tr Ls N 233 38 [some (mP (some 480)), some (mI (T : Int)), some (mI x), some (mI f), some (mI (done.length : Int))] [mI f'] σ post := by
      intro f' hf' e'
      rw [← e'] at K
      iterate 3 (refine tr_mv rfl (fun _ => rfl) ?_)
      show Tr Ls N 233 5 [some (mP (some 480)), some (mI (T : Int)), some (mI x), some (mI f'), some (mI ((done.length : Int) + 1))] [] σ post
      rw [show (done.length : Int) + 1 = ((done ++ [z]).length : Int) by simp]
      refine ih (done ++ [z]) f' (by rw [e]; simp) hf' ?_
      simpa using K
    refine tr_cmp2 rfl (m32_of (by omega)) (m32_of (by omega)) (fun c1 => ?_) (fun c1 => ?_)
    · iterate 1 (refine tr_mv rfl (fun _ => rfl) ?_)
      exact hnext f hf (by rw [if_neg (by omega)])
    · iterate 2 (refine tr_mv rfl (fun _ => rfl) ?_)
      exact hnext _ (by omega) (by rw [if_pos (by omega)])
theorem s_233 (hT : T < 4) (hx : in32 x) (hc : σ.2 498 T = (xs.length : Int)) (hl : xs.length ≤ 12) (hs : mseg σ 496 (12 * T) xs) (hin : ∀ y ∈ xs, in32 y) (hn : xs.Nodup) (K : post (.inl (some (mI (rplace xs x)))) σ) : Tr Ls N 233 0 [some (mP (some 480)), some (mI (T : Int)), some (mI x), none, none] [] σ post := by
  iterate 4 (refine tr_mv rfl (fun _ => rfl) ?_)
  exact s_233_loop hT hx hc hl hs hin xs [] (-1) rfl (by omega) (by rw [List.length_nil, rl_place hn]; exact K)
end MTAIL2
