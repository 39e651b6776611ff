/-! The script is never written. -/
def kp (h : mH) (o : Option mO) : Prop := ∀ x, o = some (.inl x) → 1 ≤ h.1.length → 1 ≤ x.2.2.2.1.1.length ∧ ∀ i, x.2.2.2.1.2.1 0 i = h.2.1 0 i
section KEEP
variable {Ls N k pc n a q kd nn i : Nat} {L : mLs} {st r : List mV} {h : mH} {σ σ' : Sg} {post : tP} {x y : Int} {o1 o2 : Option mO} {c : Prop} {b : Bool}
theorem kp_none : kp h none := fun _ e => by cases e
theorem kp_nx : kp h (mnx pc L st h) := fun x e hl => by
  cases e
  exact ⟨hl, fun _ => rfl⟩
theorem kp_r {y : (Nat × List mV × List mV) ⊕ (Option mV ⊕ Nat)} : kp h (some (.inr y)) := fun x e => by cases e
theorem kp_ite [Decidable c] (h1 : kp h o1) (h2 : kp h o2) : kp h (if c then o1 else o2) := by
  split
  · exact h1
  · exact h2
theorem kp_mi1 {f : Int → List mV → Option mO} (K : ∀ x r, kp h (f x r)) : kp h (mi1 st f) := by
  unfold mi1
  split
  · exact K _ _
  · exact kp_none
theorem kp_mi2 {f : Int → Int → List mV → Option mO} (K : ∀ x y r, kp h (f x y r)) : kp h (mi2 st f) := by
  unfold mi2
  split
  · exact K _ _ _
  · exact kp_none
theorem kp_mj2 {f : Int → Int → List mV → Option mO} (K : ∀ x y r, kp h (f x y r)) : kp h (mj2 st f) := by
  unfold mj2
  split
  · exact K _ _ _
  · exact kp_none
theorem kp_mji {f : Int → Int → List mV → Option mO} (K : ∀ x y r, kp h (f x y r)) : kp h (mji st f) := by
  unfold mji
  split
  · exact K _ _ _
  · exact kp_none
theorem kp_mp1 {f : Nat → List mV → Option mO} (K : ∀ x r, kp h (f x r)) : kp h (mp1 st f) := by
  unfold mp1
  split
  · exact K _ _
  · exact kp_none
theorem kp_mix {f : Nat → Int → List mV → Option mO} (K : ∀ x y r, kp h (f x y r)) : kp h (mix st f) := by
  unfold mix
  split
  · exact K _ _ _
  · exact kp_none
theorem kp_mci {f : Int → Option mO} (K : ∀ x, kp h (f x)) : kp h (mci i L f) := by
  unfold mci
  split
  · exact K _
  · exact kp_none
theorem kp_mcj {f : Int → Option mO} (K : ∀ x, kp h (f x)) : kp h (mcj i L f) := by
  unfold mcj
  split
  · exact K _
  · exact kp_none
theorem kp_mcp {f : Nat → Option mO} (K : ∀ x, kp h (f x)) : kp h (mcp i L f) := by
  unfold mcp
  split
  · exact K _
  · exact kp_none
theorem kp_mst {v : mV} : kp h (mst i v pc L r h) := kp_ite kp_nx kp_none
theorem kp_mif {cd : Jvm.ClassFile.Cond} (h1 : kp h o1) (h2 : kp h o2) : kp h (mif cd x y o1 o2) := kp_ite h1 h2
theorem kp_mrd {f : Int → Option mO} (K : ∀ x, kp h (f x)) : kp h (mrd h kd a x f) := by
  unfold mrd
  split
  · exact kp_ite (K _) kp_none
  · exact kp_none
theorem kp_mup (ha : 2 ≤ a) : kp h (mnx pc L r (h.1, mup h.2.1 a i x, h.2.2)) := fun z e hl => by
  cases e
  refine ⟨hl, fun j => ?_⟩
  show mup h.2.1 a i x 0 j = _
  unfold mup
  rw [if_neg (by omega)]
theorem kp_mwr : kp h (mwr h kd a x y fun h' => mnx pc L r h') := by
  unfold mwr
  split
  · split
    · rename_i g
      exact kp_mup g.1
    · exact kp_none
  · exact kp_none
theorem kp_new {s : Nat} {d : Nat → Int} {f : Nat → List mV} : kp h (mpay s (mnew h kd nn d fun q h' => mnx pc L (f q) h')) := by
  unfold mnew
  split
  · intro z e hl
    cases e
    refine ⟨by show 1 ≤ (h.1 ++ _).length; rw [List.length_append]; omega, fun j => ?_⟩
    show (if 0 = h.1.length then d j else h.2.1 0 j) = _
    rw [if_neg (by omega)]
  · exact fun z e => by cases e
theorem kp_call : kp h (mcall k n st) := kp_ite kp_r kp_none
set_option maxHeartbeats 1600000 in
theorem kp_step (fd : Nat → Nat → Int) (nf : Nat → Nat) (e : mE) : kp h (mstep fd nf e pc L st h) := by
  unfold mstep
  dsimp only
  split
  all_goals repeat' (first | exact kp_none | exact kp_nx | exact kp_r | exact kp_mst | exact kp_call | exact kp_mwr | exact kp_new | (refine kp_mi1 (fun _ _ => ?_)) | (refine kp_mi2 (fun _ _ _ => ?_)) | (refine kp_mj2 (fun _ _ _ => ?_)) | (refine kp_mji (fun _ _ _ => ?_)) | (refine kp_mp1 (fun _ _ => ?_)) | (refine kp_mix (fun _ _ _ => ?_)) | (refine kp_mci (fun _ => ?_)) | (refine kp_mcj (fun _ => ?_)) | (refine kp_mcp (fun _ => ?_)) | (refine kp_mrd (fun _ => ?_)) | (refine kp_mif ?_ ?_) | exact kp_mup (by omega) | split)
theorem kp_run (P : mProg) : ∀ (f k pc : Nat) (L : mLs) (st : List mV) (h : mH) (r : mR), mrun P f k pc L st h = some r → 1 ≤ h.1.length → 1 ≤ r.2.1.1.length ∧ ∀ i, r.2.1.2.1 0 i = h.2.1 0 i := by
  intro f
  induction f with
  | zero => intro k pc L st h r hr; cases hr
  | succ f ih =>
    intro k pc L st h r hr hl
    unfold mrun at hr
    split at hr
    · cases hr
    · rename_i e he
      split at hr
      · cases hr
      · rename_i pc' L' st' h' dc ds hs
        obtain ⟨o, h2, c, s, g1, g2⟩ := mbump_some hr
        obtain ⟨k1, k2⟩ := kp_step _ _ e _ hs hl
        obtain ⟨k3, k4⟩ := ih _ _ _ _ _ _ g1 k1
        rw [g2]
        exact ⟨k3, fun i => (k4 i).trans (k2 i)⟩
      · rename_i k' as rest hs
        split at hr
        · cases hr
        · rename_i v h' c s hc
          obtain ⟨o, h2, c2, s2, g1, g2⟩ := mbump_some hr
          obtain ⟨k1, k2⟩ := ih _ _ _ _ _ _ hc hl
          obtain ⟨k3, k4⟩ := ih _ _ _ _ _ _ g1 k1
          rw [g2]
          exact ⟨k3, fun i => (k4 i).trans (k2 i)⟩
        · rename_i E h' c s hc
          obtain ⟨k1, k2⟩ := ih _ _ _ _ _ _ hc hl
          split at hr
          · cases hr
            exact ⟨k1, k2⟩
          · split at hr
            · obtain ⟨o, h2, c2, s2, g1, g2⟩ := mbump_some hr
              obtain ⟨k3, k4⟩ := ih _ _ _ _ _ _ g1 k1
              rw [g2]
              exact ⟨k3, fun i => (k4 i).trans (k2 i)⟩
            · cases hr
      · cases hr
        exact ⟨hl, fun _ => rfl⟩
      · cases hr
        exact ⟨hl, fun _ => rfl⟩
theorem tr_keep (hT : Tr Ls N k pc L st σ post) : Tr Ls N k pc L st σ (fun o σ' => post o σ' ∧ ∀ i, σ'.2 0 i = σ.2 0 i) := fun h hr => by
  obtain ⟨f, o, h', c, s, σ', h1, h2, h3, h4, h5⟩ := hT h hr
  have hl : 1 ≤ h.1.length := by rw [hr.1]; simp
  obtain ⟨k1, k2⟩ := kp_run _ _ _ _ _ _ _ _ h1 hl
  refine ⟨f, o, h', c, s, σ', h1, h2, h3, h4, h5, fun i => ?_⟩
  have r0 : rowC 0 = false := by decide +kernel
  have p0 : mPtr 0 i = none := by
    cases hp : mPtr 0 i with
    | none => rfl
    | some v =>
      obtain ⟨p, g1, g2⟩ := mPf_mem hp
      have := List.all_eq_true.mp (show (mPts.all fun p => decide (1 ≤ p.1)) = true by decide +kernel) p g1
      simp at this
      omega
  rw [← h4.2.2.2.1 0 i r0 p0, ← hr.2.2.2.1 0 i r0 p0]
  exact k2 i
end KEEP
