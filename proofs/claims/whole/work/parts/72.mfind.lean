/-! The model's elements of a row of signs. -/
/-- the model's way: groups are numbered one by one -/
def gthM (D : TD) (bv : Int) (ss : List Int) : Nat → Nat → Int → GS → Int × GS
  | 0, _, v, S => (v, S)
  | f + 1, p, v, S => if ss.length ≤ p then (v, S) else if S.2.1.getD p 0 ≠ -1 then gthM D bv ss f (p + 1) (v + 1) S else gthM D bv ss f (p + (gStep D bv ss p v S).1) (v + 1) (gStep D bv ss p v S).2
def gthMR (D : TD) (bv : Int) (ss : List Int) : Int × GS := gthM D bv ss (ss.length + 1) 0 0 ([], List.replicate ss.length (-1), 0)
section MFIND
variable {Ls N k pc n n' nn b c t a q T kd w : Nat} {L L0 : mLs} {st r as : List mV} {h h' : mH} {σ σ' σ'' : Sg} {post : tP} {x y z x' y' i i' s v m u : Int} {xs ys its lvs sv sg ss g : List Int} {e : mE} {C : Nat → Nat → Prop} {D : TD} {els : List El} {o : Nat → Int}
set_option maxRecDepth 8000 in
theorem s_259 (hT : T < 4) (hM : tlM T σ D) (hD : okTD D) (hR : mrow σ ss) (h40 : okA40 ss) (hls : ss.length ≤ 31) (hS : meM σ els) (hG : mgM σ g v) (hgl : g.length = ss.length) (hv : in32 v) {f : Nat} (hf : f < ss.length) (hm : ¬ isMrk (ss.getD f 0)) (hl : els.length + 3 ≤ 128)
    (K : ∀ σ', meM σ' (els ++ elsOf D (itmC D ss f v g).1 (b2 (isBlk (ss.getD f 0)))) → mgM σ' (itmC D ss f v g).2 v → only cEG σ σ' → post (.inl (some (mI ((lnOf D (ss.drop f) : Nat) : Int)))) σ') :
    Tr Ls N 259 0 [some (mP (some 480)), some (mI (T : Int)), some (mI (f : Int)), none, none, none, none, none, none, none] [] σ post := by
  have hM' : ∀ σ', only cGr σ σ' → tlM T σ' D := fun σ' ho => hM.el ho (fun q i h1 h2 => by omega)
  have hR' : ∀ σ', only cGr σ σ' → mrow σ' ss := fun σ' ho => hR.el ho (fun i => by omega) (by omega)
  have hne : ss.drop f ≠ [] := fun e9 => by
    have := congrArg List.length e9
    simp at this
    omega
  have hld : (ss.drop f).length = ss.length - f := List.length_drop
  have hin := lnOf_in D hne
  have hkn := itmC_kn hD h40 hf hm v g
  have hb1 := fun hs => itmC_blk hD h40 hf v g hs
  have hb2 := fun hs => itmC_nblk (D := D) h40 hf v g hs
  have hx40 : 0 ≤ ss.getD f 0 ∧ ss.getD f 0 < 40 := h40 _ (by
    rw [List.getD_eq_getElem?_getD, List.getElem?_eq_getElem hf]
    exact List.getElem_mem _)
  -- the row is found
  have h81 : ∀ (v5 v6 : Int), Tr Ls N 259 81 [some (mP (some 480)), some (mI (T : Int)), some (mI (f : Int)), some (mI (cdL ((ss.drop f).take (lnOf D (ss.drop f))))), some (mI ((lnOf D (ss.drop f) : Nat) : Int)), some (mI v5), some (mI v6), none, none, none] [] σ post := by
    intro v5 v6
    have hcd : okCd (cdL ((ss.drop f).take (lnOf D (ss.drop f)))) := by
      refine cdL_pos _ (fun e9 => ?_) ?_ (fun s hs => h40 s (List.mem_of_mem_drop (List.mem_of_mem_take hs)))
      · have := congrArg List.length e9
        rw [List.length_take] at this
        simp at this
        omega
      · rw [List.length_take]
        omega
    unfold itmC at K hkn hb1 hb2
    generalize hln : lnOf D (ss.drop f) = ln at *
    generalize hC0 : cdL ((ss.drop f).take ln) = C0 at *
    have h119 : ∀ σ', mgM σ' (tkF ln f v g) v → only cGr σ σ' → Tr Ls N 259 119 [some (mP (some 480)), some (mI (T : Int)), some (mI (f : Int)), some (mI C0), some (mI (ln : Int)), some (mI v5), some (mI 0), some (mI ((f + ln : Nat) : Int)), none, none] [] σ' post := by
      intro σ' hG' ho
      have hlt : (ss.take (f + ln)).length = f + ln := by rw [List.length_take]; omega
      have h9 := s_259_marks (Ls := Ls) (N := N) (post := post) (f := f) (ln := ln) (v5 := v5) hT hM hD hR h40 hls hv (E := fun C σ2 => C = (tmk D v (ss.drop (f + ln)) C0 0 (f + ln) (tkF ln f v g)).1 ∧ mgM σ2 (tmk D v (ss.drop (f + ln)) C0 0 (f + ln) (tkF ln f v g)).2 v) (fun C v6 v7 g' v8 σ2 hE ho2 => ?_) (ss.drop (f + ln)) (ss.take (f + ln)) C0 0 (tkF ln f v g) none σ' (List.take_append_drop _ _).symm hG' (by rw [tkF_len]; exact hgl) ho hcd ⟨Int.le_refl _, by decide⟩ (fun σ2 k1 k2 => ?_)
      · rw [hlt] at h9
        exact h9
      · rw [hE.1]
        refine s_259_els hT (hM' σ2 ho2) hD (hS.el ho2 (fun q i h1 h2 => by omega) (by omega)) hkn hl ⟨fun hs => ?_, hb2⟩ (by omega) (fun σ3 k1 k2 => K σ3 k1 (hE.2.el k2 (fun i => by omega) (by omega)) ((ho2.wk (fun q i h => Or.inr h)).tr (k2.wk (fun q i h => Or.inl h))))
        have := hb1 hs
        rw [this]
        exact ⟨rfl, hD.notSv (by omega)⟩
      · rw [hlt] at k1
        exact ⟨by rw [hlt], k1⟩
    have loop : ∀ (d j : Nat) (σ' : Sg), j + d = ln → mgM σ' (tkF j f v g) v → only cGr σ σ' → Tr Ls N 259 84 [some (mP (some 480)), some (mI (T : Int)), some (mI (f : Int)), some (mI C0), some (mI (ln : Int)), some (mI v5), some (mI ((f + j : Nat) : Int)), none, none, none] [] σ' post := by
      intro d
      induction d with
      | zero =>
        intro j σ' e hG' ho
        iterate 4 (refine tr_mv rfl (fun _ => rfl) ?_)
        refine tr_cmp2 rfl (m32_of (by omega)) (m32_of (by omega)) (fun _ => ?_) (fun c1 => absurd (show (f : Int) + (ln : Int) ≤ ((f + j : Nat) : Int) by omega) c1)
        iterate 6 (refine tr_mv rfl (fun _ => rfl) ?_)
        exact h119 σ' (by rw [show j = ln by omega] at hG'; exact hG') ho
      | succ d ih =>
        intro j σ' e hG' ho
        iterate 4 (refine tr_mv rfl (fun _ => rfl) ?_)
        refine tr_cmp2 rfl (m32_of (by omega)) (m32_of (by omega)) (fun c1 => absurd c1 (by show ¬ _ ≤ _; omega)) (fun _ => ?_)
        repeat (first | refine tr_mgr rfl (by decide) rfl ?_ | refine tr_mgi rfl (by decide) (by decide) rfl ?_ | refine tr_mv rfl (fun _ => rfl) ?_)
        rw [hG'.2]
        refine tr_msn (j := 0 + (f + j)) rfl (by omega) (by omega) rfl (fun _ => rfl) rfl rfl rfl ?_
        iterate 2 (refine tr_mv rfl (fun _ => rfl) ?_)
        show Tr Ls N 259 84 [some (mP (some 480)), some (mI (T : Int)), some (mI (f : Int)), some (mI C0), some (mI (ln : Int)), some (mI v5), some (mI (((f + j : Nat) : Int) + 1)), none, none, none] [] _ post
        rw [show ((f + j : Nat) : Int) + 1 = ((f + (j + 1) : Nat) : Int) by omega]
        refine ih (j + 1) _ (by omega) ?_ (ho.setF (Or.inl rfl))
        rw [tkF_snoc]
        exact hG'.set _ _
    iterate 2 (refine tr_mv rfl (fun _ => rfl) ?_)
    exact loop ln 0 σ (by omega) hG only.rf
  -- looking for the row
  have hlnq : lnOf D (ss.drop f) = if 3 ≤ (ss.drop f).length ∧ kn D (cdL ((ss.drop f).take 3)) then 3 else if 2 ≤ (ss.drop f).length ∧ kn D (cdL ((ss.drop f).take 2)) then 2 else 1 := rfl
  have hend : ∀ (C5 v6 : Int) (ln : Nat) (C0 : Int), 0 ≤ v6 ∧ v6 < 100000 → ((ss.length : Int) ≤ v6 ∨ (f : Int) + 3 ≤ v6) → ln = lnOf D (ss.drop f) → C0 = cdL ((ss.drop f).take ln) → Tr Ls N 259 20 [some (mP (some 480)), some (mI (T : Int)), some (mI (f : Int)), some (mI C0), some (mI (ln : Int)), some (mI C5), some (mI v6), none, none, none] [] σ post := by
    intro C5 v6 ln C0 h1 h2 e1 e2
    subst e2
    subst e1
    repeat (first | refine tr_mgr rfl (by decide) rfl ?_ | refine tr_mgi rfl (by decide) (by decide) rfl ?_ | refine tr_mv rfl (fun _ => rfl) ?_)
    rw [hR.1]
    refine tr_cmp2 rfl (m32_of (by omega)) (m32_of (by omega)) (fun c1 => ?_) (fun c1 => ?_)
    · exact h81 _ _
    · iterate 4 (refine tr_mv rfl (fun _ => rfl) ?_)
      refine tr_cmp2 rfl (m32_of (by omega)) (m32_of (by omega)) (fun _ => ?_) (fun c2 => absurd (show (f : Int) + 3 ≤ v6 by omega) c2)
      exact h81 _ _
  have hstep : ∀ (C5 : Int) (j ln : Nat) (C0 : Int), j = 1 ∨ j = 2 → f + j < ss.length → (C5 = cdL ((ss.drop f).take j)) → okCd C5 → (kn D (cdL ((ss.drop f).take (j + 1))) → Tr Ls N 259 20 [some (mP (some 480)), some (mI (T : Int)), some (mI (f : Int)), some (mI (cdL ((ss.drop f).take (j + 1)))), some (mI ((j + 1 : Nat) : Int)), some (mI (cdL ((ss.drop f).take (j + 1)))), some (mI ((f + (j + 1) : Nat) : Int)), none, none, none] [] σ post) → (¬ kn D (cdL ((ss.drop f).take (j + 1))) → Tr Ls N 259 20 [some (mP (some 480)), some (mI (T : Int)), some (mI (f : Int)), some (mI C0), some (mI (ln : Int)), some (mI (cdL ((ss.drop f).take (j + 1)))), some (mI ((f + (j + 1) : Nat) : Int)), none, none, none] [] σ post) → Tr Ls N 259 20 [some (mP (some 480)), some (mI (T : Int)), some (mI (f : Int)), some (mI C0), some (mI (ln : Int)), some (mI C5), some (mI ((f + j : Nat) : Int)), none, none, none] [] σ post := by
    intro C5 j ln C0 hj hlt e5 hc5 K1 K2
    have ec : 100 * C5 + ss.getD (f + j) 0 + 1 = cdL ((ss.drop f).take (j + 1)) := by
      rw [e5]
      unfold cdL
      rw [List.take_add_one, List.getElem?_drop, List.getElem?_eq_getElem hlt, List.foldl_append, List.getD_eq_getElem?_getD, List.getElem?_eq_getElem hlt]
      show 100 * _ + _ + 1 = _ * 100 + _ + 1
      rw [Int.mul_comm]
      rfl
    have hy40 : 0 ≤ ss.getD (f + j) 0 ∧ ss.getD (f + j) 0 < 40 := h40 _ (by
      rw [List.getD_eq_getElem?_getD, List.getElem?_eq_getElem hlt]
      exact List.getElem_mem _)
    repeat (first | refine tr_mgr rfl (by decide) rfl ?_ | refine tr_mgi rfl (by decide) (by decide) rfl ?_ | refine tr_mv rfl (fun _ => rfl) ?_)
    rw [hR.1]
    refine tr_cmp2 rfl (m32_of (by omega)) (m32_of (by omega)) (fun c1 => absurd c1 (by show ¬ _ ≤ _; omega)) (fun _ => ?_)
    iterate 4 (refine tr_mv rfl (fun _ => rfl) ?_)
    refine tr_cmp2 rfl (m32_of (by omega)) (m32_of (by omega)) (fun c1 => absurd c1 (by show ¬ _ ≤ _; omega)) (fun _ => ?_)
    repeat (first | refine tr_mgr rfl (by decide) rfl ?_ | refine tr_mgi rfl (by decide) (by decide) rfl ?_ | refine tr_mv rfl (fun _ => rfl) ?_)
    refine tr_man (j := f + j) rfl (by omega) (by omega) rfl (fun _ => rfl) rfl rfl rfl ?_
    rw [mrow_getD hR hlt]
    iterate 4 (refine tr_mv rfl (fun _ => rfl) ?_)
    rw [ec]
    rw [← ec] at K1 K2
    repeat (first | refine tr_mgr rfl (by decide) rfl ?_ | refine tr_mgi rfl (by decide) (by decide) rfl ?_ | refine tr_mv rfl (fun _ => rfl) ?_)
    refine tr_vc (q := 480) rfl isO_480 rfl rfl rfl (s_257 hT (by omega) hM hD ?_)
    rw [← ec]
    first | refine tr_ib rfl (fun c2 => ?_) (fun c2 => ?_) | refine tr_ibn rfl (fun c2 => ?_) (fun c2 => ?_)
    · iterate 2 (refine tr_mv rfl (fun _ => rfl) ?_)
      show Tr Ls N 259 20 [some (mP (some 480)), some (mI (T : Int)), some (mI (f : Int)), some (mI C0), some (mI (ln : Int)), some (mI (100 * C5 + ss.getD (f + j) 0 + 1)), some (mI (((f + j : Nat) : Int) + 1)), none, none, none] [] _ post
      rw [show ((f + j : Nat) : Int) + 1 = ((f + (j + 1) : Nat) : Int) by omega]
      exact K2 c2
    · iterate 10 (refine tr_mv rfl (fun _ => rfl) ?_)
      show Tr Ls N 259 20 [some (mP (some 480)), some (mI (T : Int)), some (mI (f : Int)), some (mI (100 * C5 + ss.getD (f + j) 0 + 1)), some (mI (((f + j : Nat) : Int) + 1 - (f : Int))), some (mI (100 * C5 + ss.getD (f + j) 0 + 1)), some (mI (((f + j : Nat) : Int) + 1)), none, none, none] [] _ post
      rw [show ((f + j : Nat) : Int) + 1 - (f : Int) = ((j + 1 : Nat) : Int) by omega, show ((f + j : Nat) : Int) + 1 = ((f + (j + 1) : Nat) : Int) by omega]
      exact K1 c2
  have e1 : cdL ((ss.drop f).take 1) = ss.getD f 0 + 1 := by
    rw [drop_get hf]
    show (0 : Int) * 100 + ss.getD f 0 + 1 = _
    omega
  have hok : ∀ j, 1 ≤ j → j ≤ 3 → okCd (cdL ((ss.drop f).take j)) := fun j h1 h2 => by
    refine cdL_pos _ (fun e9 => ?_) ?_ (fun s hs => h40 s (List.mem_of_mem_drop (List.mem_of_mem_take hs)))
    · have := congrArg List.length e9
      rw [List.length_take] at this
      simp at this
      omega
    · rw [List.length_take]
      omega
  have h20 : Tr Ls N 259 20 [some (mP (some 480)), some (mI (T : Int)), some (mI (f : Int)), some (mI (ss.getD f 0 + 1)), some (mI ((1 : Nat) : Int)), some (mI (ss.getD f 0 + 1)), some (mI ((f + 1 : Nat) : Int)), none, none, none] [] σ post := by
    by_cases q1 : f + 1 < ss.length
    · refine hstep _ 1 1 _ (Or.inl rfl) q1 e1.symm (by rw [← e1]; exact hok 1 (by decide) (by decide)) (fun k2 => ?_) (fun k2 => ?_)
      · by_cases q2 : f + 2 < ss.length
        · refine hstep _ 2 2 _ (Or.inr rfl) q2 rfl (hok 2 (by decide) (by decide)) (fun k3 => ?_) (fun k3 => ?_)
          · exact hend _ _ 3 _ (by omega) (by omega) (by rw [hlnq, if_pos ⟨by omega, k3⟩]) rfl
          · exact hend _ _ 2 _ (by omega) (by omega) (by rw [hlnq, if_neg (fun g => k3 g.2), if_pos ⟨by omega, k2⟩]) rfl
        · exact hend _ _ 2 _ (by omega) (by omega) (by rw [hlnq, if_neg (fun g => by omega), if_pos ⟨by omega, k2⟩]) rfl
      · by_cases q2 : f + 2 < ss.length
        · refine hstep _ 2 1 _ (Or.inr rfl) q2 rfl (hok 2 (by decide) (by decide)) (fun k3 => ?_) (fun k3 => ?_)
          · exact hend _ _ 3 _ (by omega) (by omega) (by rw [hlnq, if_pos ⟨by omega, k3⟩]) rfl
          · exact hend _ _ 1 _ (by omega) (by omega) (by rw [hlnq, if_neg (fun g => k3 g.2), if_neg (fun g => k2 g.2)]) e1.symm
        · exact hend _ _ 1 _ (by omega) (by omega) (by rw [hlnq, if_neg (fun g => by omega), if_neg (fun g => k2 g.2)]) e1.symm
    · exact hend _ _ 1 _ (by omega) (by omega) (by rw [hlnq, if_neg (fun g => by omega), if_neg (fun g => by omega)]) e1.symm
  repeat (first | refine tr_mgr rfl (by decide) rfl ?_ | refine tr_mgi rfl (by decide) (by decide) rfl ?_ | refine tr_mv rfl (fun _ => rfl) ?_)
  refine tr_man (j := f) rfl (by omega) (by omega) rfl (fun _ => rfl) rfl rfl rfl ?_
  rw [mrow_getD hR hf]
  iterate 11 (refine tr_mv rfl (fun _ => rfl) ?_)
  exact h20
end MFIND
