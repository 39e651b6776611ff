/-! The class Tailoring: can a rule be told? (2) -/
abbrev okA (its : List Int) (an it k : Int) : Prop := isLet (sgAt an k) ∧ sgAt an k + 1 ∈ its ∧ sgAt an k + 1 ≠ it
abbrev canSort (its sg : List Int) (it an : Int) : Prop := (0 < sgIn an → okA its an it 0) ∧ (1 < sgIn an → okA its an it 1) ∧ (2 < sgIn an → okA its an it 2) ∧ 1 < sgIn an ∧ ¬ oneOf sg it
def canTellQ (its sg : List Int) (rules how an it : Int) : Prop := rules < 12 ∧ an ≠ -1 ∧ an ≠ it ∧ canBe it ∧ (how = 7 → canSort its sg it an) ∧ (how ≠ 7 → an ∈ its)
def canTellB (its sg : List Int) (rules how an it : Int) : Bool := decide (rules < 12) && (decide (an ≠ -1) && (decide (an ≠ it) && (decide (canBe it) && (bif decide (how = 7) then decide (canSort its sg it an) else decide (an ∈ its)))))
abbrev canTellP (its sg : List Int) (rules how an it : Int) : Prop := canTellB its sg rules how an it = true
theorem canTell_iff {its sg : List Int} {rules how an it : Int} : canTellP its sg rules how an it ↔ canTellQ its sg rules how an it := by
  unfold canTellP canTellB canTellQ
  rw [Bool.and_eq_true, Bool.and_eq_true, Bool.and_eq_true, Bool.and_eq_true, decide_eq_true_iff, decide_eq_true_iff, decide_eq_true_iff, decide_eq_true_iff]
  by_cases h : how = 7
  · rw [decide_eq_true h, cond_true, decide_eq_true_iff]
    exact ⟨fun g => ⟨g.1, g.2.1, g.2.2.1, g.2.2.2.1, fun _ => g.2.2.2.2, fun g7 => absurd h g7⟩, fun g => ⟨g.1, g.2.1, g.2.2.1, g.2.2.2.1, g.2.2.2.2.1 h⟩⟩
  · rw [decide_eq_false h, cond_false, decide_eq_true_iff]
    exact ⟨fun g => ⟨g.1, g.2.1, g.2.2.1, g.2.2.2.1, fun g7 => absurd g7 h, fun _ => g.2.2.2.2⟩, fun g => ⟨g.1, g.2.1, g.2.2.1, g.2.2.2.1, g.2.2.2.2.2 h⟩⟩
section CAN3
variable {Ls N N1 N2 k pc n n' nn b c t u a q : Nat} {L L0 : mLs} {st r as : List mV} {h h' : mH} {σ σ' σ'' : Sg} {post : tP} {x y z x' y' i i' s v m w how an it : Int} {xs ys its lvs : List Int} {e : mE} {C : Nat → Nat → Prop} {B M : Int → Int} {R : Nat → Prop}
theorem s_118 (ht : isT t) (hi : in32 it) (ha : -1 ≤ an ∧ an < 1010101) (hl : (σ.1 (t + 11)).length = (σ.1 (t + 13)).length) (hc : ∀ s ∈ σ.1 (t + 13), 0 < s ∧ s < 1010101) (K : post (.inl (some (mI (b2 (canSort (σ.1 (t + 1)) (σ.1 (t + 13)) it an))))) σ) :
    Tr Ls N 118 0 [some (mP (some t)), some (mI it), some (mI an), none, none] [] σ post := by
  have hs := sgIn_in an
  have hout : ∀ (k : Int) (v4 : Option mV), in32 k → sgIn an ≤ k → (0 < sgIn an → okA (σ.1 (t + 1)) an it 0) → (1 < sgIn an → okA (σ.1 (t + 1)) an it 1) → (2 < sgIn an → okA (σ.1 (t + 1)) an it 2) → Tr Ls N 118 2 [some (mP (some t)), some (mI it), some (mI an), some (mI k), v4] [] σ post := by
    intro k v4 hk hle p0 p1 p2
    iterate 2 (refine tr_mv rfl (fun _ => rfl) ?_)
    refine tr_stat rfl rfl rfl (s_186 (by omega) ?_)
    refine tr_cmp2 rfl (m32_of hk) (m32_of (by omega)) (fun _ => ?_) (fun c1 => absurd hle c1)
    iterate 1 (refine tr_mv rfl (fun _ => rfl) ?_)
    refine tr_stat rfl rfl rfl (s_186 (by omega) ?_)
    iterate 1 (refine tr_mv rfl (fun _ => rfl) ?_)
    refine tr_cmp2 rfl (m32_of (by omega)) (m32_of (by omega)) (fun c1 => ?_) (fun c1 => ?_)
    · iterate 1 (refine tr_mv rfl (fun _ => rfl) ?_)
      exact tr_rb0 rfl (fun g => absurd g.2.2.2.1 (by omega)) K
    · iterate 2 (refine tr_mv rfl (fun _ => rfl) ?_)
      refine tr_vc (q := t) rfl (T_O ht) rfl rfl rfl (s_119 ht hi hl hc ?_)
      first | refine tr_ib rfl (fun c2 => ?_) (fun c2 => ?_) | refine tr_ibn rfl (fun c2 => ?_) (fun c2 => ?_)
      · iterate 1 (refine tr_mv rfl (fun _ => rfl) ?_)
        exact tr_rb0 rfl (fun g => g.2.2.2.2 c2) K
      · iterate 2 (refine tr_mv rfl (fun _ => rfl) ?_)
        exact tr_rb1 rfl ⟨p0, p1, p2, by omega, c2⟩ K
  have hstep : ∀ (k : Int) (v4 : Option mV), 0 ≤ k ∧ k ≤ 2 → k < sgIn an → (¬ okA (σ.1 (t + 1)) an it k → ¬ canSort (σ.1 (t + 1)) (σ.1 (t + 13)) it an) → (okA (σ.1 (t + 1)) an it k → ∀ v5, Tr Ls N 118 2 [some (mP (some t)), some (mI it), some (mI an), some (mI (k + 1)), some (mI v5)] [] σ post) → Tr Ls N 118 2 [some (mP (some t)), some (mI it), some (mI an), some (mI k), v4] [] σ post := by
    intro k v4 hk hlt hno hyes
    have hg := sgAt_in (show 0 ≤ an by omega) k
    have h49 : ¬ okA (σ.1 (t + 1)) an it k → ∀ v5, Tr Ls N 118 49 [some (mP (some t)), some (mI it), some (mI an), some (mI k), some (mI v5)] [] σ post := by
      intro g v5
      iterate 1 (refine tr_mv rfl (fun _ => rfl) ?_)
      exact tr_rb0 rfl (hno g) K
    iterate 2 (refine tr_mv rfl (fun _ => rfl) ?_)
    refine tr_stat rfl rfl rfl (s_186 (by omega) ?_)
    refine tr_cmp2 rfl (m32_of (by omega)) (m32_of (by omega)) (fun c1 => absurd c1 (by show ¬ _ ≤ _; omega)) (fun _ => ?_)
    iterate 2 (refine tr_mv rfl (fun _ => rfl) ?_)
    refine tr_stat rfl rfl rfl (s_187 (by omega) (by omega) ?_)
    refine tr_stat rfl rfl rfl (s_185 ?_)
    iterate 3 (refine tr_mv rfl (fun _ => rfl) ?_)
    refine tr_stat rfl rfl rfl (s_187 (by omega) (by omega) ?_)
    refine tr_stat rfl rfl rfl (s_178 (by omega) ?_)
    first | refine tr_ib rfl (fun c2 => ?_) (fun c2 => ?_) | refine tr_ibn rfl (fun c2 => ?_) (fun c2 => ?_)
    · exact h49 (fun g => c2 g.1) _
    · iterate 1 (refine tr_mv rfl (fun _ => rfl) ?_)
      refine tr_gr rfl (T_O ht) (by decide) (T_p0 ht) ?_
      iterate 1 (refine tr_mv rfl (fun _ => rfl) ?_)
      refine tr_vc (q := t + 1) rfl ⟨(T_r0 ht).1, (T_r0 ht).2.1⟩ rfl rfl rfl (s_104 (T_r0 ht) (by omega) ?_)
      first | refine tr_ib rfl (fun c3 => ?_) (fun c3 => ?_) | refine tr_ibn rfl (fun c3 => ?_) (fun c3 => ?_)
      · exact h49 (fun g => c3 g.2.1) _
      · iterate 2 (refine tr_mv rfl (fun _ => rfl) ?_)
        refine tr_cmp2 rfl (m32_of (by omega)) (m32_of hi) (fun c4 => ?_) (fun c4 => ?_)
        · iterate 2 (refine tr_mv rfl (fun _ => rfl) ?_)
          exact hyes ⟨c2, c3, c4⟩ _
        · exact h49 (fun g => g.2.2 (by omega)) _
  iterate 2 (refine tr_mv rfl (fun _ => rfl) ?_)
  show Tr Ls N 118 2 [some (mP (some t)), some (mI it), some (mI an), some (mI 0), none] [] σ post
  by_cases h0 : 0 < sgIn an
  · refine hstep 0 none (by omega) h0 (fun g k => g (k.1 h0)) (fun g0 v5 => ?_)
    show Tr Ls N 118 2 [some (mP (some t)), some (mI it), some (mI an), some (mI 1), some (mI v5)] [] σ post
    by_cases h1 : 1 < sgIn an
    · refine hstep 1 _ (by omega) h1 (fun g k => g (k.2.1 h1)) (fun g1 v6 => ?_)
      show Tr Ls N 118 2 [some (mP (some t)), some (mI it), some (mI an), some (mI 2), some (mI v6)] [] σ post
      by_cases h2 : 2 < sgIn an
      · refine hstep 2 _ (by omega) h2 (fun g k => g (k.2.2.1 h2)) (fun g2 v7 => ?_)
        exact hout 3 _ (by omega) (by omega) (fun _ => g0) (fun _ => g1) (fun _ => g2)
      · exact hout 2 _ (by omega) (by omega) (fun _ => g0) (fun _ => g1) (fun g => absurd g h2)
    · exact hout 1 _ (by omega) (by omega) (fun _ => g0) (fun g => absurd g h1) (fun g => absurd g (by omega))
  · exact hout 0 none (by omega) (by omega) (fun g => absurd g h0) (fun g => absurd g (by omega)) (fun g => absurd g (by omega))
theorem s_116 (ht : isT t) (hh : in32 how) (hi : -1 ≤ it ∧ it < 1010101) (ha : -1 ≤ an ∧ an < 1010101) (hl : (σ.1 (t + 11)).length = (σ.1 (t + 13)).length) (hc : ∀ s ∈ σ.1 (t + 13), 0 < s ∧ s < 1010101) (K : post (.inl (some (mI (b2 (canTellP (σ.1 (t + 1)) (σ.1 (t + 13)) (σ.1 (t + 15)).length how an it))))) σ) :
    Tr Ls N 116 0 [some (mP (some t)), some (mI how), some (mI an), some (mI it)] [] σ post := by
  refine tr_fact fun ⟨h0, hr⟩ => ?_
  have l1 := rep_len hr (T_r7 ht)
  have h29 : ¬ canTellQ (σ.1 (t + 1)) (σ.1 (t + 13)) (σ.1 (t + 15)).length how an it → Tr Ls N 116 29 [some (mP (some t)), some (mI how), some (mI an), some (mI it)] [] σ post := by
    intro g
    iterate 1 (refine tr_mv rfl (fun _ => rfl) ?_)
    exact tr_rb0 rfl (fun g2 => g (canTell_iff.mp g2)) K
  iterate 1 (refine tr_mv rfl (fun _ => rfl) ?_)
  refine tr_gr rfl (T_O ht) (by decide) (T_p7 ht) ?_
  refine tr_size (T_r7 ht) rfl rfl ?_
  iterate 1 (refine tr_mv rfl (fun _ => rfl) ?_)
  refine tr_cmp2 rfl (m32_of (by omega)) (m32_of (by omega)) (fun c1 => ?_) (fun c1 => ?_)
  · exact h29 (fun g => absurd g.1 (by omega))
  · iterate 2 (refine tr_mv rfl (fun _ => rfl) ?_)
    refine tr_cmp2 rfl (m32_of (by omega)) (m32_of (by omega)) (fun c2 => ?_) (fun c2 => ?_)
    · exact h29 (fun g => g.2.1 c2)
    · iterate 2 (refine tr_mv rfl (fun _ => rfl) ?_)
      refine tr_cmp2 rfl (m32_of (by omega)) (m32_of (by omega)) (fun c3 => ?_) (fun c3 => ?_)
      · exact h29 (fun g => g.2.2.1 c3)
      · iterate 1 (refine tr_mv rfl (fun _ => rfl) ?_)
        refine tr_stat rfl rfl rfl (s_117 hi ?_)
        first | refine tr_ib rfl (fun c4 => ?_) (fun c4 => ?_) | refine tr_ibn rfl (fun c4 => ?_) (fun c4 => ?_)
        · iterate 2 (refine tr_mv rfl (fun _ => rfl) ?_)
          refine tr_cmp2 rfl (m32_of (by omega)) (m32_of (by omega)) (fun c5 => ?_) (fun c5 => ?_)
          · have h7 : how ≠ 7 := c5
            iterate 1 (refine tr_mv rfl (fun _ => rfl) ?_)
            refine tr_gr rfl (T_O ht) (by decide) (T_p0 ht) ?_
            iterate 1 (refine tr_mv rfl (fun _ => rfl) ?_)
            refine tr_vc (q := t + 1) rfl ⟨(T_r0 ht).1, (T_r0 ht).2.1⟩ rfl rfl rfl (s_104 (T_r0 ht) (by omega) ?_)
            refine tr_rb rfl ?_
            rw [b2_congr (p' := canTellP (σ.1 (t + 1)) (σ.1 (t + 13)) (σ.1 (t + 15)).length how an it) ⟨fun g => canTell_iff.mpr ⟨by omega, c2, c3, c4, fun g7 => absurd g7 h7, fun _ => g⟩, fun g => (canTell_iff.mp g).2.2.2.2.2 h7⟩]
            exact K
          · have h7 : how = 7 := by omega
            iterate 3 (refine tr_mv rfl (fun _ => rfl) ?_)
            refine tr_vc (q := t) rfl (T_O ht) rfl rfl rfl (s_118 ht (by omega) ha hl hc ?_)
            iterate 1 (refine tr_mv rfl (fun _ => rfl) ?_)
            refine tr_rb rfl ?_
            rw [b2_congr (p' := canTellP (σ.1 (t + 1)) (σ.1 (t + 13)) (σ.1 (t + 15)).length how an it) ⟨fun g => canTell_iff.mpr ⟨by omega, c2, c3, c4, fun _ => g, fun g7 => absurd h7 g7⟩, fun g => (canTell_iff.mp g).2.2.2.2.1 h7⟩]
            exact K
        · exact h29 (fun g => c4 g.2.2.2.1)
end CAN3
