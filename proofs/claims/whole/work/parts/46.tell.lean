/-! The class Tailoring: rules copied, a rule told. -/
section TELL
variable {Ls N N1 N2 k pc n n' nn b c t u a q : Nat} {L L0 : mLs} {st r as : List mV} {h h' : mH} {σ σ' σ'' : Sg} {post : tP} {x y z x' y' i i' s v m w : Int} {xs ys : List Int} {e : mE} {C : Nat → Nat → Prop} {B M : Int → Int} {R : Nat → Prop}
/-- the rows of a tailoring -/
abbrev rT (t a : Nat) : Prop := t < a ∧ a < t + 20
theorem isT_sep (ht : isT t) (hu : isT u) (hne : t ≠ u) (o : Nat) (ho : o < 20) : ¬ rT t (u + o) := by
  unfold isT at ht hu
  intro g
  omega
theorem onlyR_at (hk : onlyR (rT t) σ σ') (ht : isT t) (hu : isT u) (hne : t ≠ u) {o : Nat} (ho : o < 20) : σ'.1 (u + o) = σ.1 (u + o) := hk.2 _ (isT_sep ht hu hne o ho)
theorem s_126 (ht : isT t) (hu : isT u) (hne : t ≠ u) (hl : (σ.1 (u + 1)).length = (σ.1 (u + 3)).length) (K : ∀ σ', onlyR (rT t) σ σ' →
    σ'.1 (t + 1) = σ.1 (u + 1) →
    σ'.1 (t + 3) = σ.1 (u + 3) →
    σ'.1 (t + 11) = σ.1 (u + 11) →
    σ'.1 (t + 13) = σ.1 (u + 13) →
    σ'.1 (t + 15) = σ.1 (u + 15) →
    σ'.1 (t + 17) = σ.1 (u + 17) →
    σ'.1 (t + 19) = σ.1 (u + 19) →
    σ'.1 (t + 5) = w1 0 (σ.1 (u + 3)) → σ'.1 (t + 7) = w2 1 (σ.1 (u + 3)) → σ'.1 (t + 9) = w3 1 (σ.1 (u + 3)) → post (.inl none) σ') :
    Tr Ls N 126 0 [some (mP (some t)), some (mP (some u))] [] σ post := by
  refine tr_fact fun ⟨h0, hr⟩ => ?_
  have hsep : ∀ o, o < 20 → ∀ o', o' < 20 → t + o ≠ u + o' := by
    intro o ho o' ho' e
    unfold isT at ht hu
    omega
  have l1 := rep_len hr (T_r0 hu)
  have l3 := rep_len hr (T_r1 hu)
  have l11 := rep_len hr (T_r5 hu)
  have l13 := rep_len hr (T_r6 hu)
  have l15 := rep_len hr (T_r7 hu)
  have l17 := rep_len hr (T_r8 hu)
  have l19 := rep_len hr (T_r9 hu)
  have k0 : onlyR (rT t) σ σ := onlyR.rf
  iterate 1 (refine tr_mv rfl (fun _ => rfl) ?_)
  refine tr_gr rfl (T_O ht) (by decide) (T_p0 ht) ?_
  iterate 1 (refine tr_mv rfl (fun _ => rfl) ?_)
  refine tr_gr rfl (T_O hu) (by decide) (T_p0 hu) ?_
  refine tr_vc (q := t + 1) rfl ⟨(T_r0 ht).1, (T_r0 ht).2.1⟩ rfl rfl rfl (s_102 (T_r0 ht) (T_r0 hu) (hsep 1 (by decide) 1 (by decide)) (by rw [onlyR_at k0 ht hu hne (by decide)]; exact l1) ?_)
  rw [onlyR_at k0 ht hu hne (by decide)]
  generalize hσ1 : setR σ (t + 1) (σ.1 (u + 1)) = σ1
  have k1 : onlyR (rT t) σ σ1 := by rw [← hσ1]; exact k0.setR ⟨by omega, by omega⟩
  have q1_1 : σ1.1 (t + 1) = σ.1 (u + 1) := by rw [← hσ1, setR_same]
  iterate 1 (refine tr_mv rfl (fun _ => rfl) ?_)
  refine tr_gr rfl (T_O ht) (by decide) (T_p1 ht) ?_
  iterate 1 (refine tr_mv rfl (fun _ => rfl) ?_)
  refine tr_gr rfl (T_O hu) (by decide) (T_p1 hu) ?_
  refine tr_vc (q := t + 3) rfl ⟨(T_r1 ht).1, (T_r1 ht).2.1⟩ rfl rfl rfl (s_102 (T_r1 ht) (T_r1 hu) (hsep 3 (by decide) 3 (by decide)) (by rw [onlyR_at k1 ht hu hne (by decide)]; exact l3) ?_)
  rw [onlyR_at k1 ht hu hne (by decide)]
  generalize hσ2 : setR σ1 (t + 3) (σ.1 (u + 3)) = σ2
  have k2 : onlyR (rT t) σ σ2 := by rw [← hσ2]; exact k1.setR ⟨by omega, by omega⟩
  have q2_3 : σ2.1 (t + 3) = σ.1 (u + 3) := by rw [← hσ2, setR_same]
  have q2_1 : σ2.1 (t + 1) = σ.1 (u + 1) := by rw [← hσ2, setR_ne _ _ (by omega)]; exact q1_1
  iterate 1 (refine tr_mv rfl (fun _ => rfl) ?_)
  refine tr_gr rfl (T_O ht) (by decide) (T_p5 ht) ?_
  iterate 1 (refine tr_mv rfl (fun _ => rfl) ?_)
  refine tr_gr rfl (T_O hu) (by decide) (T_p5 hu) ?_
  refine tr_vc (q := t + 11) rfl ⟨(T_r5 ht).1, (T_r5 ht).2.1⟩ rfl rfl rfl (s_102 (T_r5 ht) (T_r5 hu) (hsep 11 (by decide) 11 (by decide)) (by rw [onlyR_at k2 ht hu hne (by decide)]; exact l11) ?_)
  rw [onlyR_at k2 ht hu hne (by decide)]
  generalize hσ3 : setR σ2 (t + 11) (σ.1 (u + 11)) = σ3
  have k3 : onlyR (rT t) σ σ3 := by rw [← hσ3]; exact k2.setR ⟨by omega, by omega⟩
  have q3_11 : σ3.1 (t + 11) = σ.1 (u + 11) := by rw [← hσ3, setR_same]
  have q3_1 : σ3.1 (t + 1) = σ.1 (u + 1) := by rw [← hσ3, setR_ne _ _ (by omega)]; exact q2_1
  have q3_3 : σ3.1 (t + 3) = σ.1 (u + 3) := by rw [← hσ3, setR_ne _ _ (by omega)]; exact q2_3
  iterate 1 (refine tr_mv rfl (fun _ => rfl) ?_)
  refine tr_gr rfl (T_O ht) (by decide) (T_p6 ht) ?_
  iterate 1 (refine tr_mv rfl (fun _ => rfl) ?_)
  refine tr_gr rfl (T_O hu) (by decide) (T_p6 hu) ?_
  refine tr_vc (q := t + 13) rfl ⟨(T_r6 ht).1, (T_r6 ht).2.1⟩ rfl rfl rfl (s_102 (T_r6 ht) (T_r6 hu) (hsep 13 (by decide) 13 (by decide)) (by rw [onlyR_at k3 ht hu hne (by decide)]; exact l13) ?_)
  rw [onlyR_at k3 ht hu hne (by decide)]
  generalize hσ4 : setR σ3 (t + 13) (σ.1 (u + 13)) = σ4
  have k4 : onlyR (rT t) σ σ4 := by rw [← hσ4]; exact k3.setR ⟨by omega, by omega⟩
  have q4_13 : σ4.1 (t + 13) = σ.1 (u + 13) := by rw [← hσ4, setR_same]
  have q4_1 : σ4.1 (t + 1) = σ.1 (u + 1) := by rw [← hσ4, setR_ne _ _ (by omega)]; exact q3_1
  have q4_3 : σ4.1 (t + 3) = σ.1 (u + 3) := by rw [← hσ4, setR_ne _ _ (by omega)]; exact q3_3
  have q4_11 : σ4.1 (t + 11) = σ.1 (u + 11) := by rw [← hσ4, setR_ne _ _ (by omega)]; exact q3_11
  iterate 1 (refine tr_mv rfl (fun _ => rfl) ?_)
  refine tr_gr rfl (T_O ht) (by decide) (T_p7 ht) ?_
  iterate 1 (refine tr_mv rfl (fun _ => rfl) ?_)
  refine tr_gr rfl (T_O hu) (by decide) (T_p7 hu) ?_
  refine tr_vc (q := t + 15) rfl ⟨(T_r7 ht).1, (T_r7 ht).2.1⟩ rfl rfl rfl (s_102 (T_r7 ht) (T_r7 hu) (hsep 15 (by decide) 15 (by decide)) (by rw [onlyR_at k4 ht hu hne (by decide)]; exact l15) ?_)
  rw [onlyR_at k4 ht hu hne (by decide)]
  generalize hσ5 : setR σ4 (t + 15) (σ.1 (u + 15)) = σ5
  have k5 : onlyR (rT t) σ σ5 := by rw [← hσ5]; exact k4.setR ⟨by omega, by omega⟩
  have q5_15 : σ5.1 (t + 15) = σ.1 (u + 15) := by rw [← hσ5, setR_same]
  have q5_1 : σ5.1 (t + 1) = σ.1 (u + 1) := by rw [← hσ5, setR_ne _ _ (by omega)]; exact q4_1
  have q5_3 : σ5.1 (t + 3) = σ.1 (u + 3) := by rw [← hσ5, setR_ne _ _ (by omega)]; exact q4_3
  have q5_11 : σ5.1 (t + 11) = σ.1 (u + 11) := by rw [← hσ5, setR_ne _ _ (by omega)]; exact q4_11
  have q5_13 : σ5.1 (t + 13) = σ.1 (u + 13) := by rw [← hσ5, setR_ne _ _ (by omega)]; exact q4_13
  iterate 1 (refine tr_mv rfl (fun _ => rfl) ?_)
  refine tr_gr rfl (T_O ht) (by decide) (T_p8 ht) ?_
  iterate 1 (refine tr_mv rfl (fun _ => rfl) ?_)
  refine tr_gr rfl (T_O hu) (by decide) (T_p8 hu) ?_
  refine tr_vc (q := t + 17) rfl ⟨(T_r8 ht).1, (T_r8 ht).2.1⟩ rfl rfl rfl (s_102 (T_r8 ht) (T_r8 hu) (hsep 17 (by decide) 17 (by decide)) (by rw [onlyR_at k5 ht hu hne (by decide)]; exact l17) ?_)
  rw [onlyR_at k5 ht hu hne (by decide)]
  generalize hσ6 : setR σ5 (t + 17) (σ.1 (u + 17)) = σ6
  have k6 : onlyR (rT t) σ σ6 := by rw [← hσ6]; exact k5.setR ⟨by omega, by omega⟩
  have q6_17 : σ6.1 (t + 17) = σ.1 (u + 17) := by rw [← hσ6, setR_same]
  have q6_1 : σ6.1 (t + 1) = σ.1 (u + 1) := by rw [← hσ6, setR_ne _ _ (by omega)]; exact q5_1
  have q6_3 : σ6.1 (t + 3) = σ.1 (u + 3) := by rw [← hσ6, setR_ne _ _ (by omega)]; exact q5_3
  have q6_11 : σ6.1 (t + 11) = σ.1 (u + 11) := by rw [← hσ6, setR_ne _ _ (by omega)]; exact q5_11
  have q6_13 : σ6.1 (t + 13) = σ.1 (u + 13) := by rw [← hσ6, setR_ne _ _ (by omega)]; exact q5_13
  have q6_15 : σ6.1 (t + 15) = σ.1 (u + 15) := by rw [← hσ6, setR_ne _ _ (by omega)]; exact q5_15
  iterate 1 (refine tr_mv rfl (fun _ => rfl) ?_)
  refine tr_gr rfl (T_O ht) (by decide) (T_p9 ht) ?_
  iterate 1 (refine tr_mv rfl (fun _ => rfl) ?_)
  refine tr_gr rfl (T_O hu) (by decide) (T_p9 hu) ?_
  refine tr_vc (q := t + 19) rfl ⟨(T_r9 ht).1, (T_r9 ht).2.1⟩ rfl rfl rfl (s_102 (T_r9 ht) (T_r9 hu) (hsep 19 (by decide) 19 (by decide)) (by rw [onlyR_at k6 ht hu hne (by decide)]; exact l19) ?_)
  rw [onlyR_at k6 ht hu hne (by decide)]
  generalize hσ7 : setR σ6 (t + 19) (σ.1 (u + 19)) = σ7
  have k7 : onlyR (rT t) σ σ7 := by rw [← hσ7]; exact k6.setR ⟨by omega, by omega⟩
  have q7_19 : σ7.1 (t + 19) = σ.1 (u + 19) := by rw [← hσ7, setR_same]
  have q7_1 : σ7.1 (t + 1) = σ.1 (u + 1) := by rw [← hσ7, setR_ne _ _ (by omega)]; exact q6_1
  have q7_3 : σ7.1 (t + 3) = σ.1 (u + 3) := by rw [← hσ7, setR_ne _ _ (by omega)]; exact q6_3
  have q7_11 : σ7.1 (t + 11) = σ.1 (u + 11) := by rw [← hσ7, setR_ne _ _ (by omega)]; exact q6_11
  have q7_13 : σ7.1 (t + 13) = σ.1 (u + 13) := by rw [← hσ7, setR_ne _ _ (by omega)]; exact q6_13
  have q7_15 : σ7.1 (t + 15) = σ.1 (u + 15) := by rw [← hσ7, setR_ne _ _ (by omega)]; exact q6_15
  have q7_17 : σ7.1 (t + 17) = σ.1 (u + 17) := by rw [← hσ7, setR_ne _ _ (by omega)]; exact q6_17
  iterate 1 (refine tr_mv rfl (fun _ => rfl) ?_)
  refine tr_vc (q := t) rfl (T_O ht) rfl rfl rfl (s_107 ht (by rw [q7_1, q7_3]; exact hl) (fun σ8 g1 g2 g3 g4 => ?_))
  rw [q7_3] at g2 g3 g4
  have g5 : ∀ o, o ≠ 5 → o ≠ 7 → o ≠ 9 → σ8.1 (t + o) = σ7.1 (t + o) := fun o e1 e2 e3 => g1.2 _ (fun g => by omega)
  refine tr_ret rfl (fun _ => rfl) (K σ8 (k7.tr (g1.wk (fun a ha => ⟨by omega, by omega⟩))) ((g5 1 (by decide) (by decide) (by decide)).trans q7_1) ((g5 3 (by decide) (by decide) (by decide)).trans q7_3) ((g5 11 (by decide) (by decide) (by decide)).trans q7_11) ((g5 13 (by decide) (by decide) (by decide)).trans q7_13) ((g5 15 (by decide) (by decide) (by decide)).trans q7_15) ((g5 17 (by decide) (by decide) (by decide)).trans q7_17) ((g5 19 (by decide) (by decide) (by decide)).trans q7_19) g2 g3 g4)
end TELL
