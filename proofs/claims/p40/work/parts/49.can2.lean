/-! The class Tailoring: is an item one of several? -/
abbrev hasSg (s x : Int) : Prop := (0 < sgIn s ∧ sgAt s 0 + 1 = x) ∨ (1 < sgIn s ∧ sgAt s 1 + 1 = x) ∨ (2 < sgIn s ∧ sgAt s 2 + 1 = x)
abbrev oneOf (l : List Int) (x : Int) : Prop := l.any (fun s => decide (hasSg s x)) = true
theorem oneOf_iff {l : List Int} {x : Int} : oneOf l x ↔ ∃ s ∈ l, hasSg s x := by
  unfold oneOf
  rw [List.any_eq_true]
  constructor
  · rintro ⟨s, g1, g2⟩
    exact ⟨s, g1, of_decide_eq_true g2⟩
  · rintro ⟨s, g1, g2⟩
    exact ⟨s, g1, decide_eq_true g2⟩
section CAN2
variable {Ls N N1 N2 k pc n n' nn b c t u a q : Nat} {L L0 : mLs} {st r as : List mV} {h h' : mH} {σ σ' σ'' : Sg} {post : tP} {x y z x' y' i i' s v m w how an it : Int} {xs ys its lvs : List Int} {e : mE} {C : Nat → Nat → Prop} {B M : Int → Int} {R : Nat → Prop}
theorem s_119_loop (ht : isT t) (hx : in32 x) (hl : (σ.1 (t + 11)).length = (σ.1 (t + 13)).length) (hc : ∀ s ∈ σ.1 (t + 13), 0 < s ∧ s < 1010101) : ∀ (rest done : List Int) (v3 v4 : Option mV), σ.1 (t + 13) = done ++ rest → ((¬ ∃ s ∈ done, hasSg s x) → post (.inl (some (mI (b2 (oneOf (σ.1 (t + 13)) x))))) σ) → (¬ ∃ s ∈ done, hasSg s x) →
    Tr Ls N 119 2 [some (mP (some t)), some (mI x), some (mI (done.length : Int)), v3, v4] [] σ post := by
  intro rest
  induction rest with
  | nil =>
    intro done v3 v4 e K hno
    refine tr_fact fun ⟨h0, hr⟩ => ?_
    have l1 := rep_len hr (T_r5 ht)
    rw [List.append_nil] at e
    have hlen : (σ.1 (t + 11)).length = done.length := by rw [hl, e]
    iterate 2 (refine tr_mv rfl (fun _ => rfl) ?_)
    refine tr_gr rfl (T_O ht) (by decide) (T_p5 ht) ?_
    refine tr_size (T_r5 ht) rfl rfl ?_
    refine tr_cmp2 rfl (m32_of (by omega)) (m32_of (by omega)) (fun _ => ?_) (fun c1 => absurd (show ((σ.1 (t + 11)).length : Int) ≤ (done.length : Int) by omega) c1)
    iterate 1 (refine tr_mv rfl (fun _ => rfl) ?_)
    exact tr_rb0 rfl (by rw [e, oneOf_iff]; exact hno) (K hno)
  | cons s rest ih =>
    intro done v3 v4 e K hno
    refine tr_fact fun ⟨h0, hr⟩ => ?_
    have l1 := rep_len hr (T_r5 ht)
    have hs := hc s (by rw [e]; simp)
    have hin := sgIn_in s
    have hlen : (σ.1 (t + 11)).length = done.length + 1 + rest.length := by rw [hl, e]; simp; omega
    have hout : ∀ k : Int, in32 k → sgIn s ≤ k → ¬ hasSg s x → Tr Ls N 119 25 [some (mP (some t)), some (mI x), some (mI (done.length : Int)), some (mI s), some (mI k)] [] σ post := by
      intro k hk hle hnh
      iterate 2 (refine tr_mv rfl (fun _ => rfl) ?_)
      refine tr_stat rfl rfl rfl (s_186 (by omega) ?_)
      refine tr_cmp2 rfl (m32_of hk) (m32_of (by omega)) (fun _ => ?_) (fun c1 => absurd hle c1)
      iterate 2 (refine tr_mv rfl (fun _ => rfl) ?_)
      show Tr Ls N 119 2 [some (mP (some t)), some (mI x), some (mI ((done.length : Int) + 1)), some (mI s), some (mI k)] [] σ post
      rw [show (done.length : Int) + 1 = ((done ++ [s]).length : Int) by simp]
      have hno2 : ¬ ∃ s' ∈ done ++ [s], hasSg s' x := by
        rintro ⟨s', g1, g2⟩
        rcases List.mem_append.mp g1 with g | g
        · exact hno ⟨s', g, g2⟩
        · rw [List.mem_singleton.mp g] at g2
          exact hnh g2
      exact ih (done ++ [s]) _ _ (by rw [e]; simp) (fun _ => K hno) hno2
    have hstep : ∀ k : Int, 0 ≤ k ∧ k ≤ 2 → k < sgIn s → (sgAt s k + 1 = x → hasSg s x) → (sgAt s k + 1 ≠ x → Tr Ls N 119 25 [some (mP (some t)), some (mI x), some (mI (done.length : Int)), some (mI s), some (mI (k + 1))] [] σ post) → Tr Ls N 119 25 [some (mP (some t)), some (mI x), some (mI (done.length : Int)), some (mI s), some (mI k)] [] σ post := by
      intro k hk hlt hyes hgo
      have hg := sgAt_in (show 0 ≤ s by omega) k
      iterate 2 (refine tr_mv rfl (fun _ => rfl) ?_)
      refine tr_stat rfl rfl rfl (s_186 (by omega) ?_)
      refine tr_cmp2 rfl (m32_of (by omega)) (m32_of (by omega)) (fun c1 => absurd c1 (by show ¬ _ ≤ _; omega)) (fun _ => ?_)
      iterate 2 (refine tr_mv rfl (fun _ => rfl) ?_)
      refine tr_stat rfl rfl rfl (s_187 (by omega) (by omega) ?_)
      refine tr_stat rfl rfl rfl (s_185 ?_)
      iterate 1 (refine tr_mv rfl (fun _ => rfl) ?_)
      refine tr_cmp2 rfl (m32_of (by omega)) (m32_of hx) (fun c1 => ?_) (fun c1 => ?_)
      · iterate 2 (refine tr_mv rfl (fun _ => rfl) ?_)
        exact hgo c1
      · have c1' : sgAt s k + 1 = x := by omega
        iterate 1 (refine tr_mv rfl (fun _ => rfl) ?_)
        exact tr_rb1 rfl (oneOf_iff.mpr ⟨s, by rw [e]; simp, hyes c1'⟩) (K hno)
    iterate 2 (refine tr_mv rfl (fun _ => rfl) ?_)
    refine tr_gr rfl (T_O ht) (by decide) (T_p5 ht) ?_
    refine tr_size (T_r5 ht) rfl rfl ?_
    refine tr_cmp2 rfl (m32_of (by omega)) (m32_of (by omega)) (fun c1 => absurd c1 (by show ¬ _ ≤ _; omega)) (fun _ => ?_)
    iterate 1 (refine tr_mv rfl (fun _ => rfl) ?_)
    refine tr_gr rfl (T_O ht) (by decide) (T_p6 ht) ?_
    iterate 1 (refine tr_mv rfl (fun _ => rfl) ?_)
    refine tr_at2 (T_r6 ht) (m32_of (by omega)) rfl rfl ?_
    rw [e, rget_mid rfl]
    iterate 3 (refine tr_mv rfl (fun _ => rfl) ?_)
    show Tr Ls N 119 25 [some (mP (some t)), some (mI x), some (mI (done.length : Int)), some (mI s), some (mI 0)] [] σ post
    refine hstep 0 (by omega) (by omega) (fun g => Or.inl ⟨by omega, g⟩) (fun g0 => ?_)
    show Tr Ls N 119 25 [some (mP (some t)), some (mI x), some (mI (done.length : Int)), some (mI s), some (mI 1)] [] σ post
    by_cases h1 : 1 < sgIn s
    · refine hstep 1 (by omega) h1 (fun g => Or.inr (Or.inl ⟨h1, g⟩)) (fun g1 => ?_)
      show Tr Ls N 119 25 [some (mP (some t)), some (mI x), some (mI (done.length : Int)), some (mI s), some (mI 2)] [] σ post
      by_cases h2 : 2 < sgIn s
      · refine hstep 2 (by omega) h2 (fun g => Or.inr (Or.inr ⟨h2, g⟩)) (fun g2 => ?_)
        exact hout 3 (by omega) (by omega) (fun g => by rcases g with g | g | g; exact g0 g.2; exact g1 g.2; exact g2 g.2)
      · exact hout 2 (by omega) (by omega) (fun g => by rcases g with g | g | g; exact g0 g.2; exact g1 g.2; exact h2 g.1)
    · exact hout 1 (by omega) (by omega) (fun g => by rcases g with g | g | g; exact g0 g.2; exact h1 g.1; exact absurd g.1 (by omega))
theorem s_119 (ht : isT t) (hx : in32 x) (hl : (σ.1 (t + 11)).length = (σ.1 (t + 13)).length) (hc : ∀ s ∈ σ.1 (t + 13), 0 < s ∧ s < 1010101) (K : post (.inl (some (mI (b2 (oneOf (σ.1 (t + 13)) x))))) σ) : Tr Ls N 119 0 [some (mP (some t)), some (mI x), none, none, none] [] σ post := by
  iterate 2 (refine tr_mv rfl (fun _ => rfl) ?_)
  exact s_119_loop ht hx hl hc (σ.1 (t + 13)) [] none none rfl (fun _ => K) (fun g => by obtain ⟨s, g1, -⟩ := g; cases g1)
end CAN2
