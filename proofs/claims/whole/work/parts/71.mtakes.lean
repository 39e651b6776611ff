/-! The model's items: what is taken. -/
theorem tkF_snoc (v : Int) : ∀ (d f : Nat) (l : List Int), tkF (d + 1) f v l = (tkF d f v l).set (f + d) v
  | 0, _, _ => rfl
  | d + 1, f, l => by
    show tkF (d + 1) (f + 1) v (l.set f v) = _
    rw [tkF_snoc v d (f + 1) (l.set f v), show f + 1 + d = f + (d + 1) by omega]
    rfl
section MTAKES
variable {Ls N k pc n n' nn b c t a q T kd w : Nat} {L L0 : mLs} {st r as : List mV} {h h' : mH} {σ σ' σ'' : Sg} {post : tP} {x y z x' y' i i' s v m u : Int} {xs ys its lvs sv sg ss g : List Int} {e : mE} {C : Nat → Nat → Prop} {D : TD} {els : List El}
theorem mgM.same {p : Nat} (h : mgM σ g v) : mgM (setF σ 508 p (σ.2 508 p)) g v := ⟨h.1.keep (fun i _ _ => by
  rw [setF_get]
  split
  · rename_i e; rw [e.2]
  · rfl), (setF_ne _ _ (by omega)).trans h.2⟩
set_option maxRecDepth 8000 in
theorem s_259_els (hT : T < 4) (hM : tlM T σ D) (hD : okTD D) (hS : meM σ els) (hc : kn D x) (hl : els.length + 3 ≤ 128) (hgap : (isBlk y → x = y + 1 ∧ rplace D.2.2.1 x = -1) ∧ (¬ isBlk y → x ≠ 29 ∧ x ≠ 30)) {f ln : Nat} (hln : ln < 100) {v5 v6 v7 : Int} {v8 : Option mV}
    (K : ∀ σ', meM σ' (els ++ elsOf D x (b2 (isBlk y))) → only cEl σ σ' → post (.inl (some (mI (ln : Int)))) σ') :
    Tr Ls N 259 285 [some (mP (some 480)), some (mI (T : Int)), some (mI (f : Int)), some (mI x), some (mI (ln : Int)), some (mI v5), some (mI v6), some (mI v7), v8, none] [] σ post := by
  have hxc := hD.cd hc
  have h12 := hD.2.2.1
  have hM' : ∀ σ', only cEl σ σ' → tlM T σ' D := fun σ' ho => hM.el ho (fun q i h1 h2 => by omega)
  have hsgl := hD.sg.1
  unfold elsOf at K
  have h310 : ∀ w, w = b2 (isBlk y) → Tr Ls N 259 310 [some (mP (some 480)), some (mI (T : Int)), some (mI (f : Int)), some (mI x), some (mI (ln : Int)), some (mI v5), some (mI v6), some (mI (rplace D.2.2.1 x)), v8, none] [mI w] σ post := by
    intro w ew
    subst ew
    rcases rplace_nat D.2.2.1 x with ⟨g1, g2⟩ | ⟨p, g1, g2, g3⟩
    · have hx1 : x ∈ D.1 := hc.elim id (fun g => absurd g g2)
      have hcd : cdsOf D x = [x] := if_pos g1
      rw [hcd] at K
      rw [g1]
      have h331 : ∀ w, w = b2 (isBlk y) → Tr Ls N 259 331 [some (mP (some 480)), some (mI (T : Int)), some (mI (f : Int)), some (mI x), some (mI (ln : Int)), some (mI v5), some (mI v6), some (mI (-1)), some (mI (b2 (isBlk y))), none] [mI w, mI x, mI (T : Int), mP (some 480)] σ post := by
        intro w ew
        subst ew
        refine tr_vc (q := 480) rfl isO_480 rfl rfl rfl (s_256 hT hx1 hM hD hS (by omega) (fun σ2 k1 k2 => ?_))
        iterate 4 (refine tr_mv rfl (fun _ => rfl) ?_)
        refine tr_cmp2 rfl (m32_of (x := -1) ⟨by decide, by decide⟩) (m32_of (x := -1) ⟨by decide, by decide⟩) (fun _ => ?_) (fun c1 => absurd rfl c1)
        iterate 1 (refine tr_mv rfl (fun _ => rfl) ?_)
        exact tr_ri rfl rfl (K σ2 k1 k2)
      iterate 3 (refine tr_mv rfl (fun _ => rfl) ?_)
      refine tr_cmp2 rfl (m32_of (x := -1) ⟨by decide, by decide⟩) (m32_of (x := -1) ⟨by decide, by decide⟩) (fun c1 => absurd rfl c1) (fun _ => ?_)
      iterate 4 (refine tr_mv rfl (fun _ => rfl) ?_)
      first | refine tr_ib rfl (fun c1 => ?_) (fun c1 => ?_) | refine tr_ibn rfl (fun c1 => ?_) (fun c1 => ?_)
      · iterate 1 (refine tr_mv rfl (fun _ => rfl) ?_)
        exact h331 0 (b2_neg c1).symm
      · iterate 2 (refine tr_mv rfl (fun _ => rfl) ?_)
        exact h331 1 (b2_pos c1).symm
    · have hnb : ¬ isBlk y := fun g => by have := (hgap.1 g).2; omega
      have hcn : rplace D.2.2.1 x ≠ -1 := by omega
      have hc3 := cdsOf_len D x
      rw [b2_neg hnb] at K ⊢
      have hgs : rget D.2.2.2 (rplace D.2.2.1 x) = D.2.2.2.getD p 0 := by rw [g1]; exact rget_nat (by omega)
      have hlc : ((cdsOf D x).length : Int) = sgIn (rget D.2.2.2 (rplace D.2.2.1 x)) := by
        unfold cdsOf sgs
        have := sgIn_le3 (rget D.2.2.2 (rplace D.2.2.1 x))
        rw [if_neg hcn]
        simp
        omega
      have hsm : rget D.2.2.2 (rplace D.2.2.1 x) ∈ D.2.2.2 := rget_mem (by omega)
      have hsc := hD.sg.2 _ hsm
      rw [g1]
      iterate 3 (refine tr_mv rfl (fun _ => rfl) ?_)
      refine tr_cmp2 rfl (m32_of (by omega)) (m32_of (x := -1) ⟨by decide, by decide⟩) (fun _ => ?_) (fun c1 => absurd (show (p : Int) ≠ -1 by omega) c1)
      iterate 2 (refine tr_mv rfl (fun _ => rfl) ?_)
      have loop : ∀ (rest done : List Int) (σ' : Sg), cdsOf D x = done ++ rest → meM σ' (els ++ done.map (fun c => wOf D c 0)) → only cEl σ σ' → Tr Ls N 259 337 [some (mP (some 480)), some (mI (T : Int)), some (mI (f : Int)), some (mI x), some (mI (ln : Int)), some (mI v5), some (mI v6), some (mI (p : Int)), some (mI 0), some (mI (done.length : Int))] [] σ' post := by
        intro rest
        induction rest with
        | nil =>
          intro done σ' e hS' ho
          rw [List.append_nil] at e
          have e9 := congrArg List.length e
          iterate 2 (refine tr_mv rfl (fun _ => rfl) ?_)
          refine tr_cmp2 rfl (m32_of (by omega)) (m32_of (x := -1) ⟨by decide, by decide⟩) (fun c1 => absurd c1 (by show ¬ (p : Int) = -1; omega)) (fun _ => ?_)
          repeat (first | refine tr_mgr rfl (by decide) rfl ?_ | refine tr_mgi rfl (by decide) (by decide) rfl ?_ | refine tr_mv rfl (fun _ => rfl) ?_)
          refine tr_man (j := 12 * T + p) rfl (by omega) (by omega) rfl (fun _ => rfl) rfl rfl rfl ?_
          rw [(hM' σ' ho).2.1.2.2.get (by omega), ← hgs]
          refine tr_stat rfl rfl rfl (s_230 (by omega) (by omega) ?_)
          refine tr_cmp2 rfl (m32_of (by omega)) (m32_of (by omega)) (fun _ => ?_) (fun c1 => absurd (show sgIn (rget D.2.2.2 (rplace D.2.2.1 x)) ≤ (done.length : Int) by omega) c1)
          iterate 1 (refine tr_mv rfl (fun _ => rfl) ?_)
          refine tr_ri rfl rfl (K σ' ?_ ho)
          rw [e]
          exact hS'
        | cons z rest ih =>
          intro done σ' e hS' ho
          have hlen : (cdsOf D x).length = done.length + 1 + rest.length := by rw [e]; simp; omega
          obtain ⟨k1, k2, k3⟩ := cdsOf_get (j := done.length) hD.sg (by omega) hcn
          have hz : (cdsOf D x)[done.length]? = some z := by rw [e]; simp
          rw [k3] at hz
          have hz := Option.some.inj hz
          have hzD : z ∈ D.1 := cdsOf_mem hD hc (by rw [e]; simp)
          have hsl := sgIn_le3 (rget D.2.2.2 (rplace D.2.2.1 x))
          iterate 2 (refine tr_mv rfl (fun _ => rfl) ?_)
          refine tr_cmp2 rfl (m32_of (by omega)) (m32_of (x := -1) ⟨by decide, by decide⟩) (fun c1 => absurd c1 (by show ¬ (p : Int) = -1; omega)) (fun _ => ?_)
          repeat (first | refine tr_mgr rfl (by decide) rfl ?_ | refine tr_mgi rfl (by decide) (by decide) rfl ?_ | refine tr_mv rfl (fun _ => rfl) ?_)
          refine tr_man (j := 12 * T + p) rfl (by omega) (by omega) rfl (fun _ => rfl) rfl rfl rfl ?_
          rw [(hM' σ' ho).2.1.2.2.get (by omega), ← hgs]
          refine tr_stat rfl rfl rfl (s_230 (by omega) (by omega) ?_)
          refine tr_cmp2 rfl (m32_of (by omega)) (m32_of (by omega)) (fun c1 => absurd c1 (by show ¬ _ ≤ _; omega)) (fun _ => ?_)
          repeat (first | refine tr_mgr rfl (by decide) rfl ?_ | refine tr_mgi rfl (by decide) (by decide) rfl ?_ | refine tr_mv rfl (fun _ => rfl) ?_)
          refine tr_man (j := 12 * T + p) rfl (by omega) (by omega) rfl (fun _ => rfl) rfl rfl rfl ?_
          rw [(hM' σ' ho).2.1.2.2.get (by omega), ← hgs]
          iterate 1 (refine tr_mv rfl (fun _ => rfl) ?_)
          refine tr_stat rfl rfl rfl (s_231 (by omega) (by omega) ?_)
          iterate 3 (refine tr_mv rfl (fun _ => rfl) ?_)
          rw [hz]
          refine tr_vc (q := 480) rfl isO_480 rfl rfl rfl (s_256 hT hzD (hM' σ' ho) hD hS' (by simp; omega) (fun σ2 q1 q2 => ?_))
          iterate 2 (refine tr_mv rfl (fun _ => rfl) ?_)
          show Tr Ls N 259 337 [some (mP (some 480)), some (mI (T : Int)), some (mI (f : Int)), some (mI x), some (mI (ln : Int)), some (mI v5), some (mI v6), some (mI (p : Int)), some (mI 0), some (mI ((done.length : Int) + 1))] [] σ2 post
          rw [show (done.length : Int) + 1 = ((done ++ [z]).length : Int) by simp]
          exact ih (done ++ [z]) σ2 (by rw [e]; simp) (by simpa using q1) (ho.tr q2)
      exact loop (cdsOf D x) [] σ rfl (by simpa using hS) only.rf
  repeat (first | refine tr_mgr rfl (by decide) rfl ?_ | refine tr_mgi rfl (by decide) (by decide) rfl ?_ | refine tr_mv rfl (fun _ => rfl) ?_)
  refine tr_vc (q := 480) rfl isO_480 rfl rfl rfl (s_233D hT (by omega) hM hD ?_)
  iterate 3 (refine tr_mv rfl (fun _ => rfl) ?_)
  have hw1 : (x = 29 ∨ x = 30) → (1 : Int) = b2 (isBlk y) := fun g => by
    by_cases c : isBlk y
    · rw [b2_pos c]
    · have := hgap.2 c
      omega
  have hw0 : ¬ (x = 29 ∨ x = 30) → (0 : Int) = b2 (isBlk y) := fun g => by
    by_cases c : isBlk y
    · have := hgap.1 c
      omega
    · rw [b2_neg c]
  refine tr_cmp2 rfl (m32_of (by omega)) (m32_of (by omega)) (fun c1 => ?_) (fun c1 => ?_)
  · iterate 2 (refine tr_mv rfl (fun _ => rfl) ?_)
    exact h310 1 (hw1 (Or.inl c1))
  · iterate 2 (refine tr_mv rfl (fun _ => rfl) ?_)
    refine tr_cmp2 rfl (m32_of (by omega)) (m32_of (by omega)) (fun c2 => ?_) (fun c2 => ?_)
    · iterate 1 (refine tr_mv rfl (fun _ => rfl) ?_)
      exact h310 0 (hw0 (fun g => g.elim c1 c2))
    · iterate 2 (refine tr_mv rfl (fun _ => rfl) ?_)
      exact h310 1 (hw1 (Or.inr (Decidable.byContradiction c2)))
set_option maxRecDepth 8000 in
theorem s_259_marks (hT : T < 4) (hM : tlM T σ D) (hD : okTD D) (hR : mrow σ ss) (h40 : okA40 ss) (hls : ss.length ≤ 31) (hv : in32 v) {f ln : Nat} {v5 : Int} {E : Int → Sg → Prop}
    (K : ∀ (C v6 v7 : Int) (g' : List Int) (v8 : Option mV) (σ' : Sg), E C σ' → only cGr σ σ' → Tr Ls N 259 285 [some (mP (some 480)), some (mI (T : Int)), some (mI (f : Int)), some (mI C), some (mI (ln : Int)), some (mI v5), some (mI v6), some (mI v7), v8, none] [] σ' post) :
    ∀ (rest done : List Int) (cd cl : Int) (g : List Int) (v8 : Option mV) (σ' : Sg), ss = done ++ rest → mgM σ' g v → g.length = ss.length → only cGr σ σ' → okCd cd → 0 ≤ cl ∧ cl ≤ 3 → (∀ σ2, mgM σ2 (tmk D v rest cd cl done.length g).2 v → only cGr σ σ2 → E (tmk D v rest cd cl done.length g).1 σ2) →
    Tr Ls N 259 119 [some (mP (some 480)), some (mI (T : Int)), some (mI (f : Int)), some (mI cd), some (mI (ln : Int)), some (mI v5), some (mI cl), some (mI (done.length : Int)), v8, none] [] σ' post := by
  intro rest
  have hM' : ∀ σ', only cGr σ σ' → tlM T σ' D := fun σ' ho => hM.el ho (fun q i h1 h2 => by omega)
  have hR' : ∀ σ', only cGr σ σ' → mrow σ' ss := fun σ' ho => hR.el ho (fun i => by omega) (by omega)
  induction rest with
  | nil =>
    intro done cd cl g v8 σ' e hG hgl ho hcd hcl KE
    rw [List.append_nil] at e
    have e9 := congrArg List.length e
    repeat (first | refine tr_mgr rfl (by decide) rfl ?_ | refine tr_mgi rfl (by decide) (by decide) rfl ?_ | refine tr_mv rfl (fun _ => rfl) ?_)
    rw [(hR' σ' ho).1]
    refine tr_cmp2 rfl (m32_of (by omega)) (m32_of (by omega)) (fun _ => ?_) (fun c1 => absurd (show (ss.length : Int) ≤ (done.length : Int) by omega) c1)
    exact K cd cl _ g v8 σ' (KE σ' hG ho) ho
  | cons y rest ih =>
    intro done cd cl g v8 σ' e hG hgl ho hcd hcl KE
    have hlen : ss.length = done.length + 1 + rest.length := by rw [e]; simp; omega
    have hy := mrow_app (hR' σ' ho) e
    have hy40 := h40 y (by rw [e]; simp)
    unfold tmk at KE
    repeat (first | refine tr_mgr rfl (by decide) rfl ?_ | refine tr_mgi rfl (by decide) (by decide) rfl ?_ | refine tr_mv rfl (fun _ => rfl) ?_)
    rw [(hR' σ' ho).1]
    refine tr_cmp2 rfl (m32_of (by omega)) (m32_of (by omega)) (fun c1 => absurd c1 (by show ¬ _ ≤ _; omega)) (fun _ => ?_)
    repeat (first | refine tr_mgr rfl (by decide) rfl ?_ | refine tr_mgi rfl (by decide) (by decide) rfl ?_ | refine tr_mv rfl (fun _ => rfl) ?_)
    refine tr_man (j := done.length) rfl (by omega) (by omega) rfl (fun _ => rfl) rfl rfl rfl ?_
    rw [hy]
    refine tr_stat rfl rfl rfl (s_212 (by omega) ?_)
    first | refine tr_ib rfl (fun c1 => ?_) (fun c1 => ?_) | refine tr_ibn rfl (fun c1 => ?_) (fun c1 => ?_)
    · rw [if_neg c1] at KE
      exact K cd cl _ g v8 σ' (KE σ' hG ho) ho
    · rw [if_pos c1] at KE
      have hcls : clsOf y = if y < 26 then 1 else y - 24 := if_pos c1
      have hcly := clsOf_in y
      -- what is taken, or not
      have h190 : ∀ w, w = b2 (cl < clsOf y ∧ kn D (cd * 100 + y + 1)) → Tr Ls N 259 190 [some (mP (some 480)), some (mI (T : Int)), some (mI (f : Int)), some (mI cd), some (mI (ln : Int)), some (mI v5), some (mI cl), some (mI (done.length : Int)), v8, none] [mI w] σ' post := by
        intro w ew
        subst ew
        by_cases c2 : cl < clsOf y ∧ kn D (cd * 100 + y + 1)
        · rw [b2_pos c2]
          rw [if_pos c2] at KE
          iterate 2 (refine tr_mv rfl (fun _ => rfl) ?_)
          refine tr_if2 rfl (m32_of (x := 1) ⟨by decide, by decide⟩) (fun c9 => absurd c9 (by decide)) (fun _ => ?_)
          repeat (first | refine tr_mgr rfl (by decide) rfl ?_ | refine tr_mgi rfl (by decide) (by decide) rfl ?_ | refine tr_mv rfl (fun _ => rfl) ?_)
          refine tr_man (j := done.length) rfl (by omega) (by omega) rfl (fun _ => rfl) rfl rfl rfl ?_
          rw [hy]
          iterate 4 (refine tr_mv rfl (fun _ => rfl) ?_)
          rw [show 100 * cd + y + 1 = cd * 100 + y + 1 by omega]
          repeat (first | refine tr_mgr rfl (by decide) rfl ?_ | refine tr_mgi rfl (by decide) (by decide) rfl ?_ | refine tr_mv rfl (fun _ => rfl) ?_)
          rw [hG.2]
          refine tr_msn (j := 0 + done.length) rfl (by omega) (by omega) rfl (fun _ => rfl) rfl rfl rfl ?_
          iterate 1 (refine tr_mv rfl (fun _ => rfl) ?_)
          refine tr_if2 rfl (m32_of (x := 1) ⟨by decide, by decide⟩) (fun _ => ?_) (fun c9 => absurd (show (1 : Int) ≠ 0 by decide) c9)
          iterate 4 (refine tr_mv rfl (fun _ => rfl) ?_)
          show Tr Ls N 259 119 [some (mP (some 480)), some (mI (T : Int)), some (mI (f : Int)), some (mI (cd * 100 + y + 1)), some (mI (ln : Int)), some (mI v5), some (mI cl), some (mI ((done.length : Int) + 1)), some (mI 1), none] [] _ post
          rw [show (done.length : Int) + 1 = ((done ++ [y]).length : Int) by simp]
          refine ih (done ++ [y]) (cd * 100 + y + 1) cl (g.set done.length v) _ _ (by rw [e]; simp) (hG.set _ _) (by rw [List.length_set]; exact hgl) (ho.setF (Or.inl rfl)) (hD.cd c2.2) hcl (fun σ2 k1 k2 => by simpa using KE σ2 (by simpa using k1) k2)
        · rw [b2_neg c2]
          rw [if_neg c2] at KE
          iterate 2 (refine tr_mv rfl (fun _ => rfl) ?_)
          refine tr_if2 rfl (m32_of (x := 0) ⟨by decide, by decide⟩) (fun _ => ?_) (fun c9 => absurd rfl c9)
          repeat (first | refine tr_mgr rfl (by decide) rfl ?_ | refine tr_mgi rfl (by decide) (by decide) rfl ?_ | refine tr_mv rfl (fun _ => rfl) ?_)
          refine tr_man (j := done.length) rfl (by omega) (by omega) rfl (fun _ => rfl) rfl rfl rfl ?_
          refine tr_msn (j := done.length) rfl (by omega) (by omega) rfl (fun _ => rfl) rfl rfl rfl ?_
          have ho2 : only cGr σ (setF σ' 508 done.length (σ'.2 508 done.length)) := ho.setF (Or.inl rfl)
          have hG2 := hG.same (p := done.length)
          have hy2 := mrow_app (hR' _ ho2) e
          generalize setF σ' 508 done.length (σ'.2 508 done.length) = σ3 at *
          iterate 1 (refine tr_mv rfl (fun _ => rfl) ?_)
          refine tr_if2 rfl (m32_of (x := 0) ⟨by decide, by decide⟩) (fun c9 => absurd rfl c9) (fun _ => ?_)
          have h277 : ∀ w, w = (if cl < clsOf y then clsOf y else cl) → Tr Ls N 259 277 [some (mP (some 480)), some (mI (T : Int)), some (mI (f : Int)), some (mI cd), some (mI (ln : Int)), some (mI v5), some (mI cl), some (mI (done.length : Int)), some (mI 0), none] [mI w] σ3 post := by
            intro w ew
            rw [← ew] at KE
            have hw : 0 ≤ w ∧ w ≤ 3 := by rw [ew]; split <;> omega
            iterate 3 (refine tr_mv rfl (fun _ => rfl) ?_)
            show Tr Ls N 259 119 [some (mP (some 480)), some (mI (T : Int)), some (mI (f : Int)), some (mI cd), some (mI (ln : Int)), some (mI v5), some (mI w), some (mI ((done.length : Int) + 1)), some (mI 0), none] [] _ post
            rw [show (done.length : Int) + 1 = ((done ++ [y]).length : Int) by simp]
            exact ih (done ++ [y]) cd w g _ _ (by rw [e]; simp) hG2 hgl ho2 hcd hw (fun σ2 k1 k2 => by simpa using KE σ2 (by simpa using k1) k2)
          repeat (first | refine tr_mgr rfl (by decide) rfl ?_ | refine tr_mgi rfl (by decide) (by decide) rfl ?_ | refine tr_mv rfl (fun _ => rfl) ?_)
          refine tr_man (j := done.length) rfl (by omega) (by omega) rfl (fun _ => rfl) rfl rfl rfl ?_
          rw [hy2]
          refine tr_stat rfl rfl rfl (s_215 (by omega) ?_)
          rw [← hcls]
          iterate 1 (refine tr_mv rfl (fun _ => rfl) ?_)
          refine tr_cmp2 rfl (m32_of (by omega)) (m32_of (by omega)) (fun c3 => ?_) (fun c3 => ?_)
          · iterate 1 (refine tr_mv rfl (fun _ => rfl) ?_)
            exact h277 cl (by rw [if_neg (by omega)])
          · repeat (first | refine tr_mgr rfl (by decide) rfl ?_ | refine tr_mgi rfl (by decide) (by decide) rfl ?_ | refine tr_mv rfl (fun _ => rfl) ?_)
            refine tr_man (j := done.length) rfl (by omega) (by omega) rfl (fun _ => rfl) rfl rfl rfl ?_
            rw [hy2]
            refine tr_stat rfl rfl rfl (s_215 (by omega) ?_)
            rw [← hcls]
            iterate 1 (refine tr_mv rfl (fun _ => rfl) ?_)
            exact h277 _ (by rw [if_pos (by omega)])
      iterate 2 (refine tr_mv rfl (fun _ => rfl) ?_)
      refine tr_cmp2 rfl (m32_of (by omega)) (m32_of (by omega)) (fun c2 => ?_) (fun c2 => ?_)
      · iterate 1 (refine tr_mv rfl (fun _ => rfl) ?_)
        refine h190 0 (b2_neg (fun g => ?_)).symm
        have := hD.small g.2
        omega
      · repeat (first | refine tr_mgr rfl (by decide) rfl ?_ | refine tr_mgi rfl (by decide) (by decide) rfl ?_ | refine tr_mv rfl (fun _ => rfl) ?_)
        refine tr_man (j := done.length) rfl (by omega) (by omega) rfl (fun _ => rfl) rfl rfl rfl ?_
        rw [hy]
        refine tr_stat rfl rfl rfl (s_215 (by omega) ?_)
        rw [← hcls]
        iterate 1 (refine tr_mv rfl (fun _ => rfl) ?_)
        refine tr_cmp2 rfl (m32_of (by omega)) (m32_of (by omega)) (fun c3 => ?_) (fun c3 => ?_)
        · iterate 1 (refine tr_mv rfl (fun _ => rfl) ?_)
          exact h190 0 (b2_neg (fun g => absurd g.1 (by omega))).symm
        · repeat (first | refine tr_mgr rfl (by decide) rfl ?_ | refine tr_mgi rfl (by decide) (by decide) rfl ?_ | refine tr_mv rfl (fun _ => rfl) ?_)
          refine tr_man (j := done.length) rfl (by omega) (by omega) rfl (fun _ => rfl) rfl rfl rfl ?_
          rw [hy]
          iterate 3 (refine tr_mv rfl (fun _ => rfl) ?_)
          rw [show 100 * cd + y + 1 = cd * 100 + y + 1 by omega]
          refine tr_vc (q := 480) rfl isO_480 rfl rfl rfl (s_257 hT (by omega) (hM' σ' ho) hD ?_)
          first | refine tr_ib rfl (fun c4 => ?_) (fun c4 => ?_) | refine tr_ibn rfl (fun c4 => ?_) (fun c4 => ?_)
          · iterate 1 (refine tr_mv rfl (fun _ => rfl) ?_)
            exact h190 0 (b2_neg (fun g => c4 g.2)).symm
          · iterate 2 (refine tr_mv rfl (fun _ => rfl) ?_)
            exact h190 1 (b2_pos ⟨by omega, c4⟩).symm
end MTAKES
