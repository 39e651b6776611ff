/-! The model's numbers and items. -/
def mgM (σ : Sg) (g : List Int) (v : Int) : Prop := mseg σ 508 0 g ∧ σ.2 480 34 = v
abbrev cEG (q i : Nat) : Prop := cEl q i ∨ cGr q i
section MNUM
variable {Ls N k pc n n' nn b c t a q T kd w : Nat} {L L0 : mLs} {st r as : List mV} {h h' : mH} {σ σ' σ'' : Sg} {post : tP} {x y z x' y' i i' s v m u : Int} {xs ys its lvs sv sg ss g : List Int} {e : mE} {C : Nat → Nat → Prop} {D : TD} {els : List El}
theorem mrow.el (h : mrow σ xs) (ho : only C σ σ') (hC : ∀ i, ¬ C 489 i) (hC2 : ¬ C 480 13) : mrow σ' xs := ⟨(ho.2 _ _ hC2).trans h.1, fun i hi => (ho.2 _ _ (hC i)).trans (h.2.1 i hi), h.2.2⟩
theorem meM.el (h : meM σ els) (ho : only C σ σ') (hC : ∀ q i, 504 ≤ q → q ≤ 507 → ¬ C q i) (hC2 : ¬ C 480 32) : meM σ' els := ⟨(ho.2 _ _ hC2).trans h.1, h.2.1.only ho (fun i _ _ => hC _ _ (by decide) (by decide)), h.2.2.1.only ho (fun i _ _ => hC _ _ (by decide) (by decide)), h.2.2.2.1.only ho (fun i _ _ => hC _ _ (by decide) (by decide)), h.2.2.2.2.only ho (fun i _ _ => hC _ _ (by decide) (by decide))⟩
theorem mgM.el (h : mgM σ g v) (ho : only C σ σ') (hC : ∀ i, ¬ C 508 i) (hC2 : ¬ C 480 34) : mgM σ' g v := ⟨h.1.only ho (fun i _ _ => hC i), (ho.2 _ _ hC2).trans h.2⟩
theorem mgM.set (h : mgM σ g v) (p : Nat) (x : Int) : mgM (setF σ 508 (0 + p) x) (g.set p x) v := ⟨h.1.set, (setF_ne _ _ (by omega)).trans h.2⟩
theorem mrow_getD (h : mrow σ xs) {p : Nat} (hp : p < xs.length) : σ.2 489 p = xs.getD p 0 := h.2.1 p hp
theorem mrow_app {pre suf : List Int} (h : mrow σ ss) (e : ss = pre ++ x :: suf) : σ.2 489 pre.length = x := by
  rw [e] at h
  exact mrow_at h rfl
theorem only_G508 {p : Nat} (ho : only C σ σ') (hC : C 508 p) : only C σ (setF σ' 508 p x) := ho.setF hC
theorem s_258 (hT : T < 4) (hM : tlM T σ D) (hD : okTD D) (hR : mrow σ ss) (h40 : okA40 ss) (hls : ss.length ≤ 31) (hS : meM σ els) (hG : mgM σ g v) (hgl : g.length = ss.length) (hv : in32 v) {f : Nat} (hf : f < ss.length) (hx : ss[f]? = some x) (hdg : isDig x) (hl : els.length + (digs (ss.drop f)).length + 2 ≤ 128)
    (K : ∀ σ', meM σ' (els ++ numEls D (digs (ss.drop f))) → mgM σ' (tkF (digs (ss.drop f)).length f v g) v → only cEG σ σ' → post (.inl (some (mI ((digs (ss.drop f)).length : Int)))) σ') :
    Tr Ls N 258 0 [some (mP (some 480)), some (mI (T : Int)), some (mI (f : Int)), none, none, none] [] σ post := by
  have hld : (ss.drop f).length = ss.length - f := List.length_drop
  have hdl := digs_len (ss.drop f)
  have hfs : (ss.take f).length = f := by rw [List.length_take]; omega
  have hsp : ss = ss.take f ++ (digs (ss.drop f) ++ (ss.drop f).drop (digs (ss.drop f)).length) := by
    rw [← digs_split, List.take_append_drop]
  have hne : digs (ss.drop f) ≠ [] := by
    have e1 : ss.drop f = x :: ss.drop (f + 1) := by rw [drop_get hf, List.getD_eq_getElem?_getD, hx]; rfl
    rw [e1, digs_cons hdg]
    simp
  have hsl := strp_len (digs (ss.drop f))
  generalize hds : digs (ss.drop f) = ds at *
  generalize (ss.drop f).drop ds.length = post0 at *
  have fw := fwN_in hD
  have hM' : ∀ σ', only cEG σ σ' → tlM T σ' D := fun σ' ho => hM.el ho (fun q i h1 h2 => by omega)
  have hR' : ∀ σ', only cEG σ σ' → mrow σ' ss := fun σ' ho => hR.el ho (fun i => by omega) (by omega)
  have L3 : ∀ (rest done : List Int) (pre : List Int) (v5 st' : Int) (σ' : Sg), strp ds = done ++ rest → ss = pre ++ (rest ++ post0) → v5 = (pre.length : Int) → meM σ' (els ++ ([(fwN D, 1, 1, 0), (((strp ds).length : Int), 1, 1, 0)] ++ done.map (fun d => (d - 29, 1, 1, 0)))) → mgM σ' (tkF ds.length f v g) v → only cEG σ σ' → pre.length + rest.length = f + ds.length → Tr Ls N 258 106 [some (mP (some 480)), some (mI (T : Int)), some (mI (f : Int)), some (mI ((f + ds.length : Nat) : Int)), some (mI st'), some (mI v5)] [] σ' post := by
    intro rest
    induction rest with
    | nil =>
      intro done pre v5 st' σ' e1 e2 e3 hS' hG' hc e4
      subst e3
      iterate 2 (refine tr_mv rfl (fun _ => rfl) ?_)
      refine tr_cmp2 rfl (m32_of (by omega)) (m32_of (by omega)) (fun _ => ?_) (fun c1 => absurd (show ((f + ds.length : Nat) : Int) ≤ (pre.length : Int) by simp at e4; omega) c1)
      iterate 3 (refine tr_mv rfl (fun _ => rfl) ?_)
      refine tr_ri rfl (by omega) (K σ' ?_ hG' hc)
      rw [List.append_nil] at e1
      unfold numEls
      rw [e1] at hS' ⊢
      exact hS'
    | cons y rest ih =>
      intro done pre v5 st' σ' e1 e2 e3 hS' hG' hc e4
      subst e3
      have hl2 : (y :: rest).length = rest.length + 1 := rfl
      have hy := mrow_app (suf := rest ++ post0) (hR' σ' hc) e2
      have hdn : (strp ds).length = done.length + 1 + rest.length := by rw [e1]; simp; omega
      iterate 2 (refine tr_mv rfl (fun _ => rfl) ?_)
      refine tr_cmp2 rfl (m32_of (by omega)) (m32_of (by omega)) (fun c1 => absurd c1 (by show ¬ _ ≤ _; omega)) (fun _ => ?_)
      repeat (first | refine tr_mgr rfl (by decide) rfl ?_ | refine tr_mgi rfl (by decide) (by decide) rfl ?_ | refine tr_mv rfl (fun _ => rfl) ?_)
      refine tr_man (j := pre.length) rfl (by omega) (by omega) rfl (fun _ => rfl) rfl rfl rfl ?_
      rw [hy]
      repeat (first | refine tr_mgr rfl (by decide) rfl ?_ | refine tr_mgi rfl (by decide) (by decide) rfl ?_ | refine tr_mv rfl (fun _ => rfl) ?_)
      rw [show y - 30 + 1 = y - 29 by omega]
      refine tr_vc (q := 480) rfl isO_480 rfl rfl rfl (s_255 hS' (by simp; omega) (fun σ2 g1 g2 => ?_))
      iterate 2 (refine tr_mv rfl (fun _ => rfl) ?_)
      have g3 : only cEG σ' σ2 := g2.wk (fun q i h => Or.inl h)
      exact ih (done ++ [y]) (pre ++ [y]) _ st' σ2 (by rw [e1]; simp) (by rw [e2]; simp) (by simp) (by simpa using g1) (hG'.el g2 (fun i => by omega) (by omega)) (hc.tr g3) (by simp; omega)
  have L2 : ∀ (l pre : List Int) (v4 : Int) (σ' : Sg), strp l = strp ds → l ≠ [] → ss = pre ++ (l ++ post0) → v4 = (pre.length : Int) → pre.length + l.length = f + ds.length → meM σ' els → mgM σ' (tkF ds.length f v g) v → only cEG σ σ' → Tr Ls N 258 41 [some (mP (some 480)), some (mI (T : Int)), some (mI (f : Int)), some (mI ((f + ds.length : Nat) : Int)), some (mI v4), none] [] σ' post := by
    intro l
    induction l with
    | nil => intro pre v4 σ' e0 h0; exact absurd rfl h0
    | cons y l ih =>
      intro pre v4 σ' e0 h0 e2 e3 e4 hS' hG' hc
      subst e3
      have hD' := hM' σ' hc
      have hl2 : (y :: l).length = l.length + 1 := rfl
      have h67 : strp (y :: l) = y :: l → Tr Ls N 258 67 [some (mP (some 480)), some (mI (T : Int)), some (mI (f : Int)), some (mI ((f + ds.length : Nat) : Int)), some (mI (pre.length : Int)), none] [] σ' post := by
        intro e5
        have e6 : strp ds = y :: l := by rw [← e0]; exact e5
        repeat (first | refine tr_mgr rfl (by decide) rfl ?_ | refine tr_mgi rfl (by decide) (by decide) rfl ?_ | refine tr_mv rfl (fun _ => rfl) ?_)
        refine tr_vc (q := 480) rfl isO_480 rfl rfl rfl (s_232D hT (by omega) hD' hD ?_)
        rcases rplace_nat D.1 31 with ⟨g1, g2⟩ | ⟨p, g1, g2, g3⟩
        · exact absurd (hD.dg (by decide) (by decide)) g2
        · have h48 := hD.2.1
          have e1 : rget (w1 0 D.2.1) (p : Int) = (w1 0 D.2.1).getD p 0 := rget_nat (by rw [w1_len, ← hD.1]; exact g2)
          rw [g1]
          iterate 1 (refine tr_mv rfl (fun _ => rfl) ?_)
          refine tr_man (j := 48 * T + p) rfl (by omega) (by omega) rfl (fun _ => rfl) rfl rfl rfl ?_
          rw [hD'.2.2.1.get (by rw [w1_len, ← hD.1]; exact g2), ← e1, ← g1, show rget (w1 0 D.2.1) (rplace D.1 31) = fwN D from rfl]
          repeat (first | refine tr_mgr rfl (by decide) rfl ?_ | refine tr_mgi rfl (by decide) (by decide) rfl ?_ | refine tr_mv rfl (fun _ => rfl) ?_)
          refine tr_vc (q := 480) rfl isO_480 rfl rfl rfl (s_255 hS' (by omega) (fun σ2 k1 k2 => ?_))
          have q2 : only cEG σ' σ2 := k2.wk (fun q i h => Or.inl h)
          repeat (first | refine tr_mgr rfl (by decide) rfl ?_ | refine tr_mgi rfl (by decide) (by decide) rfl ?_ | refine tr_mv rfl (fun _ => rfl) ?_)
          rw [show ((f + ds.length : Nat) : Int) - (pre.length : Int) = ((strp ds).length : Int) by rw [e6]; omega]
          refine tr_vc (q := 480) rfl isO_480 rfl rfl rfl (s_255 k1 (by simp; omega) (fun σ3 k3 k4 => ?_))
          have q4 : only cEG σ2 σ3 := k4.wk (fun q i h => Or.inl h)
          iterate 2 (refine tr_mv rfl (fun _ => rfl) ?_)
          exact L3 (y :: l) [] pre _ _ σ3 (by rw [e6]; rfl) e2 rfl (by simpa using k3) ((hG'.el k2 (fun i => by omega) (by omega)).el k4 (fun i => by omega) (by omega)) ((hc.tr q2).tr q4) e4
      iterate 4 (refine tr_mv rfl (fun _ => rfl) ?_)
      cases l with
      | nil =>
        have hl3 : ([y] : List Int).length = 1 := rfl
        refine tr_cmp2 rfl (m32_of (by omega)) (m32_of (by omega)) (fun _ => ?_) (fun c1 => absurd (show ((f + ds.length : Nat) : Int) - 1 ≤ (pre.length : Int) by omega) c1)
        exact h67 rfl
      | cons z l =>
        have hl4 : (z :: l).length = l.length + 1 := rfl
        have hy := mrow_app (suf := (z :: l) ++ post0) (hR' σ' hc) e2
        have hy40 := h40 y (by rw [e2]; simp)
        refine tr_cmp2 rfl (m32_of (by omega)) (m32_of (by omega)) (fun c1 => absurd c1 (by show ¬ _ ≤ _; omega)) (fun _ => ?_)
        repeat (first | refine tr_mgr rfl (by decide) rfl ?_ | refine tr_mgi rfl (by decide) (by decide) rfl ?_ | refine tr_mv rfl (fun _ => rfl) ?_)
        refine tr_man (j := pre.length) rfl (by omega) (by omega) rfl (fun _ => rfl) rfl rfl rfl ?_
        rw [hy]
        iterate 1 (refine tr_mv rfl (fun _ => rfl) ?_)
        refine tr_cmp2 rfl (m32_of (by omega)) (m32_of (by omega)) (fun c2 => ?_) (fun c2 => ?_)
        · exact h67 (by show (if y = 30 then _ else _) = _; rw [if_neg c2])
        · have c2 : y = 30 := Decidable.byContradiction c2
          iterate 2 (refine tr_mv rfl (fun _ => rfl) ?_)
          refine ih (pre ++ [y]) _ σ' ?_ (by simp) (by rw [e2]; simp) (by simp) (by simp at e4 ⊢; omega) hS' hG' hc
          rw [← e0]
          show _ = (if y = 30 then _ else _)
          rw [if_pos c2]
  have L1 : ∀ (rest done : List Int) (σ' : Sg), ss = ss.take f ++ (done ++ rest) → done.length + (digs rest).length = ds.length → meM σ' els → mgM σ' (tkF done.length f v g) v → only cEG σ σ' → Tr Ls N 258 2 [some (mP (some 480)), some (mI (T : Int)), some (mI (f : Int)), some (mI ((f + done.length : Nat) : Int)), none, none] [] σ' post := by
    intro rest
    induction rest with
    | nil =>
      intro done σ' e1 e3 hS' hG' hc
      have e4 : done.length = ds.length := by simpa [digs] using e3
      have e5 : ss.length = f + done.length := by
        have := congrArg List.length e1
        rw [List.length_append, hfs] at this
        simpa using this
      rw [e4] at hG' ⊢
      repeat (first | refine tr_mgr rfl (by decide) rfl ?_ | refine tr_mgi rfl (by decide) (by decide) rfl ?_ | refine tr_mv rfl (fun _ => rfl) ?_)
      rw [(hR' σ' hc).1]
      refine tr_cmp2 rfl (m32_of (by omega)) (m32_of (by omega)) (fun _ => ?_) (fun c1 => absurd (show (ss.length : Int) ≤ ((f + ds.length : Nat) : Int) by omega) c1)
      iterate 2 (refine tr_mv rfl (fun _ => rfl) ?_)
      exact L2 ds (ss.take f) _ σ' rfl hne hsp (by rw [hfs]) (by rw [hfs]) hS' hG' hc
    | cons y rest ih =>
      intro done σ' e1 e3 hS' hG' hc
      have e5 : ss.length = f + done.length + 1 + rest.length := by
        have := congrArg List.length e1
        rw [List.length_append, hfs] at this
        simp at this
        omega
      have hy := mrow_app (pre := (ss.take f) ++ done) (suf := rest) (hR' σ' hc) (by rw [List.append_assoc]; exact e1)
      rw [List.length_append, hfs] at hy
      have hy40 := h40 y (by rw [e1]; simp)
      repeat (first | refine tr_mgr rfl (by decide) rfl ?_ | refine tr_mgi rfl (by decide) (by decide) rfl ?_ | refine tr_mv rfl (fun _ => rfl) ?_)
      rw [(hR' σ' hc).1]
      refine tr_cmp2 rfl (m32_of (by omega)) (m32_of (by omega)) (fun c1 => absurd c1 (by show ¬ _ ≤ _; omega)) (fun _ => ?_)
      repeat (first | refine tr_mgr rfl (by decide) rfl ?_ | refine tr_mgi rfl (by decide) (by decide) rfl ?_ | refine tr_mv rfl (fun _ => rfl) ?_)
      refine tr_man (j := f + done.length) rfl (by omega) (by omega) rfl (fun _ => rfl) rfl rfl rfl ?_
      rw [hy]
      refine tr_stat rfl rfl rfl (s_214 (by omega) ?_)
      first | refine tr_ib rfl (fun c2 => ?_) (fun c2 => ?_) | refine tr_ibn rfl (fun c2 => ?_) (fun c2 => ?_)
      · have e6 : digs (y :: rest) = [] := by
          show (if isDig y then _ else _) = _
          rw [if_neg c2]
        rw [e6] at e3
        rw [show done.length = ds.length by simpa using e3] at hG' ⊢
        iterate 2 (refine tr_mv rfl (fun _ => rfl) ?_)
        exact L2 ds (ss.take f) _ σ' rfl hne hsp (by rw [hfs]) (by rw [hfs]) hS' hG' hc
      · rw [digs_cons c2] at e3
        simp only [List.length_cons] at e3
        repeat (first | refine tr_mgr rfl (by decide) rfl ?_ | refine tr_mgi rfl (by decide) (by decide) rfl ?_ | refine tr_mv rfl (fun _ => rfl) ?_)
        rw [hG'.2]
        refine tr_msn (j := 0 + (f + done.length)) rfl (by omega) (by omega) rfl (fun _ => rfl) rfl rfl rfl ?_
        iterate 2 (refine tr_mv rfl (fun _ => rfl) ?_)
        show Tr Ls N 258 2 [some (mP (some 480)), some (mI (T : Int)), some (mI (f : Int)), some (mI (((f + done.length : Nat) : Int) + 1)), none, none] [] _ post
        rw [show ((f + done.length : Nat) : Int) + 1 = ((f + (done ++ [y]).length : Nat) : Int) by simp; omega]
        have ho1 : only cEG σ' (setF σ' 508 (0 + (f + done.length)) v) := only.rf.setF (Or.inr (Or.inl rfl))
        refine ih (done ++ [y]) _ (by rw [List.append_assoc]; exact e1) (by simp; omega) (hS'.el (C := cGr) (only.rf.setF (Or.inl rfl)) (fun q i h1 h2 => by omega) (by omega)) ?_ (hc.tr ho1)
        have e7 : ∀ (d f : Nat) (l : List Int), tkF (d + 1) f v l = (tkF d f v l).set (f + d) v := by
          intro d
          induction d with
          | zero => intro f l; rfl
          | succ d ihd =>
            intro f l
            show tkF (d + 1) (f + 1) v (l.set f v) = _
            rw [ihd (f + 1) (l.set f v), show f + 1 + d = f + (d + 1) by omega]
            rfl
        rw [show (done ++ [y]).length = done.length + 1 by simp, e7]
        exact hG'.set _ _
  iterate 2 (refine tr_mv rfl (fun _ => rfl) ?_)
  exact L1 (ss.drop f) [] σ (by rw [List.nil_append, List.take_append_drop]) (by rw [hds]; simp) hS hG only.rf
end MNUM
