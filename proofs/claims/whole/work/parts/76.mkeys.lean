/-! The model's keys. -/
theorem runB_in (l : Bool) (n : Nat) : ∀ w ∈ runB l n, 1 ≤ w ∧ w ≤ 200 := by
  induction n using Nat.strongRecOn with
  | ind n ih =>
    intro w hw
    rw [runB] at hw
    split at hw
    · rcases List.mem_cons.mp hw with g | g
      · omega
      · exact ih (n - 30) (by omega) w g
    · split at hw
      · rw [List.mem_singleton.mp hw]
        split <;> omega
      · cases hw
theorem runsB_in : ∀ (ws : List Int) (n : Nat), (∀ w ∈ ws, 1 ≤ w ∧ w ≤ 100) → ∀ w ∈ runsB n ws, 1 ≤ w ∧ w ≤ 200
  | [], n, _, w, hw => runB_in true n w hw
  | y :: ws, n, h, w, hw => by
    unfold runsB at hw
    have hy := h y List.mem_cons_self
    split at hw
    · exact runsB_in ws (n + 1) (fun z hz => h z (List.mem_cons_of_mem _ hz)) w hw
    · rcases List.mem_append.mp hw with g | g
      · exact runB_in false n w g
      · rcases List.mem_cons.mp g with g | g
        · omega
        · exact runsB_in ws 0 (fun z hz => h z (List.mem_cons_of_mem _ hz)) w g
theorem lvKey_in {els : List El} (h : okEls els) (lv sh bw : Int) : ∀ w ∈ lvKey lv sh bw els, 1 ≤ w ∧ w ≤ 200 := by
  intro w hw
  have hR := lvRow_in h lv sh bw
  unfold lvKey at hw
  rcases List.mem_append.mp hw with g | g
  · split at g
    · exact runsB_in _ _ hR w g
    · obtain ⟨z, hz, rfl⟩ := List.mem_map.mp g
      have := hR z hz
      omega
  · rw [List.mem_singleton.mp g]
    omega
theorem keyLv_in {els : List El} (h : okEls els) (sh bw : Int) : ∀ (d : Nat) (lv : Int), ∀ w ∈ keyLv sh bw els d lv, 1 ≤ w ∧ w ≤ 200
  | 0, _, w, hw => absurd hw List.not_mem_nil
  | d + 1, lv, w, hw => by
    unfold keyLv at hw
    rcases List.mem_append.mp hw with g | g
    · exact lvKey_in h lv sh bw w g
    · exact keyLv_in h sh bw d (lv + 1) w g
theorem keyOf_in {D : TD} (hD : okTD D) {o : Nat → Int} {d : Nat} {ss : List Int} (h40 : okA40 ss) (hls : ss.length ≤ 31) : ∀ w ∈ keyOf D o d ss, 1 ≤ w ∧ w ≤ 200 := keyLv_in (gthR_ok hD h40 hls) _ _ _ _
theorem keyOf_len {D : TD} {o : Nat → Int} {d : Nat} {ss : List Int} (hls : ss.length ≤ 31) (hd : d ≤ 4) : (keyOf D o d ss).length ≤ 376 := by
  have h1 := keyLv_len (o 0) (o 1) (gthR D (o 2) ss).1 d 1
  have h2 := gthR_len D (o 2) ss
  have h3 : d * ((gthR D (o 2) ss).1.length + 1) ≤ 4 * (3 * 31 + 1) := Nat.mul_le_mul hd (by omega)
  unfold keyOf
  omega
abbrev cKo (q i : Nat) : Prop := cEG q i ∨ cWg q i ∨ cKy q i
def txM (σ : Sg) (t : Nat) (ss : List Int) : Prop := σ.2 488 t = (ss.length : Int) ∧ mseg σ 487 (30 * t) ss
section MKEYS
variable {Ls N k pc n n' nn b c t a q T kd w d : Nat} {L L0 : mLs} {st r as : List mV} {h h' : mH} {σ σ' σ'' : Sg} {post : tP} {x y z x' y' i i' s v m u lv : Int} {xs ys its lvs sv sg ss g ws ks js : List Int} {e : mE} {C : Nat → Nat → Prop} {D : TD} {els : List El} {o : Nat → Int} {ee : El}
theorem txM.el (h : txM σ t ss) (ho : only C σ σ') (hC : ∀ q i, 487 ≤ q → q ≤ 488 → ¬ C q i) : txM σ' t ss := ⟨(ho.2 _ _ (hC _ _ (by decide) (by decide))).trans h.1, h.2.only ho (fun i _ _ => hC _ _ (by decide) (by decide))⟩
theorem s_227 (ht : t < 30) (hX : txM σ t ss) (hl : ss.length ≤ 30) (hin : ∀ x ∈ ss, in32 x) (K : ∀ σ', mrow σ' ss → only cRow σ σ' → post (.inl none) σ') : Tr Ls N 227 0 [some (mP (some 480)), some (mI (t : Int)), none] [] σ post := by
  have loop : ∀ (d j : Nat) (σ' : Sg), j + d = ss.length → σ'.2 480 13 = (ss.length : Int) → (∀ i, i < j → σ'.2 489 i = ss.getD i 0) → only cRow σ σ' → Tr Ls N 227 12 [some (mP (some 480)), some (mI (t : Int)), some (mI (j : Int))] [] σ' post := by
    intro d
    induction d with
    | zero =>
      intro j σ' e h1 h2 ho
      repeat (first | refine tr_mgr rfl (by decide) rfl ?_ | refine tr_mgi rfl (by decide) (by decide) rfl ?_ | refine tr_mv rfl (fun _ => rfl) ?_)
      rw [h1]
      refine tr_cmp2 rfl (m32_of (by omega)) (m32_of (by omega)) (fun _ => ?_) (fun c1 => absurd (show (ss.length : Int) ≤ (j : Int) by omega) c1)
      exact tr_ret rfl (fun _ => rfl) (K σ' ⟨h1, fun i hi => h2 i (by omega), hin⟩ ho)
    | succ d ih =>
      intro j σ' e h1 h2 ho
      repeat (first | refine tr_mgr rfl (by decide) rfl ?_ | refine tr_mgi rfl (by decide) (by decide) rfl ?_ | refine tr_mv rfl (fun _ => rfl) ?_)
      rw [h1]
      refine tr_cmp2 rfl (m32_of (by omega)) (m32_of (by omega)) (fun c1 => absurd c1 (by show ¬ _ ≤ _; omega)) (fun _ => ?_)
      repeat (first | refine tr_mgr rfl (by decide) rfl ?_ | refine tr_mgi rfl (by decide) (by decide) rfl ?_ | refine tr_mv rfl (fun _ => rfl) ?_)
      refine tr_man (j := 30 * t + j) rfl (by omega) (by omega) rfl (fun _ => rfl) rfl rfl rfl ?_
      rw [(hX.el ho (fun q i h1 h2 => by unfold cRow; omega)).2.get (by omega)]
      refine tr_msn (j := j) rfl (by omega) (by omega) rfl (fun _ => rfl) rfl rfl rfl ?_
      iterate 2 (refine tr_mv rfl (fun _ => rfl) ?_)
      show Tr Ls N 227 12 [some (mP (some 480)), some (mI (t : Int)), some (mI ((j : Int) + 1))] [] _ post
      rw [show (j : Int) + 1 = ((j + 1 : Nat) : Int) by omega]
      refine ih (j + 1) _ (by omega) ((setF_ne _ _ (by omega)).trans h1) (fun i hi => ?_) (ho.setF (Or.inl rfl))
      rw [setF_get]
      by_cases e2 : i = j
      · rw [if_pos ⟨rfl, e2⟩, e2]
      · rw [if_neg (fun g => e2 g.2)]
        exact h2 i (by omega)
  repeat (first | refine tr_mgr rfl (by decide) rfl ?_ | refine tr_mgi rfl (by decide) (by decide) rfl ?_ | refine tr_mv rfl (fun _ => rfl) ?_)
  refine tr_man (j := t) rfl (by omega) (by omega) rfl (fun _ => rfl) rfl rfl rfl ?_
  rw [hX.1]
  refine tr_mpi rfl (Or.inl rfl) (by decide) rfl ?_
  iterate 2 (refine tr_mv rfl (fun _ => rfl) ?_)
  exact loop ss.length 0 _ (by omega) (setF_same _ _ _ _) (fun i hi => absurd hi (Nat.not_lt_zero _)) (only.rf.setF (Or.inr ⟨rfl, rfl⟩))
theorem s_265 (hT : T < 3) (hM : tlM T σ D) (hD : okTD D) (hO : opM T σ o) (hR : mrow σ ss) (h40 : okA40 ss) (hls : ss.length ≤ 31) (hd : d ≤ 4)
    (K : ∀ σ', mkM σ' (keyOf D o d ss) → only cKo σ σ' → post (.inl none) σ') :
    Tr Ls N 265 0 [some (mP (some 480)), some (mI (T : Int)), some (mI (d : Int)), none, none] [] σ post := by
  have hok := gthR_ok hD (bv := o 2) h40 hls
  have hlen := gthR_len D (o 2) ss
  repeat (first | refine tr_mgr rfl (by decide) rfl ?_ | refine tr_mgi rfl (by decide) (by decide) rfl ?_ | refine tr_mv rfl (fun _ => rfl) ?_)
  refine tr_vc (q := 480) rfl isO_480 rfl rfl rfl (s_260 hT hM hD hO hR h40 hls (fun σ1 g1 g2 g3 => ?_))
  rw [(gthR_rel D (o 2) ss).1] at g1
  have hO1 := hO.el g3 (fun i => by omega)
  have loop : ∀ (dd : Nat) (lv : Int) (v4 : Option mV) (σ' : Sg) (acc : List Int), lv + dd = (d : Int) + 1 → 1 ≤ lv → meM σ' (gthR D (o 2) ss).1 → opM T σ' o → mkM σ' acc → acc.length + dd * ((gthR D (o 2) ss).1.length + 1) ≤ 376 → only cKo σ σ' → (∀ σ2, mkM σ2 (acc ++ keyLv (o 0) (o 1) (gthR D (o 2) ss).1 dd lv) → only cKo σ σ2 → post (.inl none) σ2) → Tr Ls N 265 12 [some (mP (some 480)), some (mI (T : Int)), some (mI (d : Int)), some (mI lv), v4] [] σ' post := by
    generalize (gthR D (o 2) ss) = G at *
    intro dd
    induction dd with
    | zero =>
      intro lv v4 σ' acc e hlv hS hO' hK hal ho K'
      iterate 2 (refine tr_mv rfl (fun _ => rfl) ?_)
      refine tr_cmp2 rfl (m32_of (by omega)) (m32_of (by omega)) (fun _ => ?_) (fun c1 => absurd (show (d : Int) < lv by omega) c1)
      exact tr_ret rfl (fun _ => rfl) (K' σ' (by simpa [keyLv] using hK) ho)
    | succ dd ih =>
      intro lv v4 σ' acc e hlv hS hO' hK hal ho K'
      have hrow := lvRow_in hok lv (o 0) (o 1)
      have hrl := lvRow_len lv (o 0) (o 1) G.1
      have hkl := lvKey_len lv (o 0) (o 1) G.1
      have hal2 : acc.length + (G.1.length + 1) + dd * (G.1.length + 1) ≤ 376 := by rw [Nat.add_mul] at hal; omega
      unfold keyLv lvKey at K'
      unfold lvKey at hkl
      iterate 2 (refine tr_mv rfl (fun _ => rfl) ?_)
      refine tr_cmp2 rfl (m32_of (by omega)) (m32_of (by omega)) (fun c1 => absurd c1 (by show ¬ _ < _; omega)) (fun _ => ?_)
      repeat (first | refine tr_mgr rfl (by decide) rfl ?_ | refine tr_mgi rfl (by decide) (by decide) rfl ?_ | refine tr_mv rfl (fun _ => rfl) ?_)
      refine tr_vc (q := 480) rfl isO_480 rfl rfl rfl (s_262 hT hO' hS hok (by omega) (by omega) (fun σ2 z1 z2 => ?_))
      generalize lvRow lv (o 0) (o 1) G.1 = R at *
      have hS2 := hS.el z2 (fun q i h1 h2 => by omega) (by omega)
      have hO2 := hO'.el z2 (fun i => by omega)
      have hK2 := hK.el z2 (fun i => by omega) (by omega)
      have ho2 := ho.tr (z2.wk (fun q i h => Or.inr (Or.inl h)))
      have h71 : ∀ (X : List Int) (v4 : Option mV) (σ3 : Sg), X = (if lv = 2 ∨ lv = 3 then runsB 0 R else R.map (fun w => w + 1)) → mkM σ3 (acc ++ X) → only cKy σ2 σ3 → Tr Ls N 265 71 [some (mP (some 480)), some (mI (T : Int)), some (mI (d : Int)), some (mI lv), v4] [] σ3 post := by
        intro X v4 σ3 eX k1 k2
        rw [← eX] at K' hkl
        simp only [List.length_append, List.length_singleton] at hkl
        iterate 2 (refine tr_mv rfl (fun _ => rfl) ?_)
        refine tr_vc (q := 480) rfl isO_480 rfl rfl rfl (s_263 k1 (by simp; omega) (fun σ4 q1 q2 => ?_))
        iterate 2 (refine tr_mv rfl (fun _ => rfl) ?_)
        have ho3 : only cKy σ2 σ4 := k2.tr q2
        exact ih (lv + 1) _ σ4 (acc ++ X ++ [1]) (by omega) (by omega) (hS2.el ho3 (fun q i h1 h2 => by omega) (by omega)) (hO2.el ho3 (fun i => by omega)) q1 (by simp; omega) (ho2.tr (ho3.wk (fun q i h => Or.inr (Or.inr h)))) (fun σ5 w1 w2 => K' σ5 (by simpa using w1) w2)
      iterate 2 (refine tr_mv rfl (fun _ => rfl) ?_)
      refine tr_cmp2 rfl (m32_of (by omega)) (m32_of (by omega)) (fun c1 => ?_) (fun c1 => ?_)
      · iterate 1 (refine tr_mv rfl (fun _ => rfl) ?_)
        refine tr_vc (q := 480) rfl isO_480 rfl rfl rfl (s_264 z1 hrow (by omega) hK2 (by omega) (fun σ3 q1 q2 => ?_))
        iterate 1 (refine tr_mv rfl (fun _ => rfl) ?_)
        exact h71 _ _ σ3 (by rw [if_pos (Or.inl c1)]) q1 q2
      · iterate 2 (refine tr_mv rfl (fun _ => rfl) ?_)
        refine tr_cmp2 rfl (m32_of (by omega)) (m32_of (by omega)) (fun c2 => ?_) (fun c2 => ?_)
        · have hlast : ∀ (rest done : List Int) (σ3 : Sg), R = done ++ rest → mkM σ3 (acc ++ done.map (fun w => w + 1)) → only cKy σ2 σ3 → Tr Ls N 265 43 [some (mP (some 480)), some (mI (T : Int)), some (mI (d : Int)), some (mI lv), some (mI (done.length : Int))] [] σ3 post := by
            intro rest
            induction rest with
            | nil =>
              intro done σ3 e1 k1 k2
              rw [List.append_nil] at e1
              have e9 := congrArg List.length e1
              repeat (first | refine tr_mgr rfl (by decide) rfl ?_ | refine tr_mgi rfl (by decide) (by decide) rfl ?_ | refine tr_mv rfl (fun _ => rfl) ?_)
              rw [(z1.el k2 (fun i => by omega) (by omega)).1]
              refine tr_cmp2 rfl (m32_of (by omega)) (m32_of (by omega)) (fun _ => ?_) (fun c1 => absurd (show (R.length : Int) ≤ (done.length : Int) by omega) c1)
              exact h71 _ _ σ3 (by rw [if_neg (fun g => g.elim c1 c2)]) (by rw [e1]; exact k1) k2
            | cons y rest ih2 =>
              intro done σ3 e1 k1 k2
              have hlen2 : R.length = done.length + 1 + rest.length := by rw [e1]; simp; omega
              have hz3 := z1.el k2 (fun i => by omega) (by omega)
              have hgy : σ3.2 509 (0 + done.length) = y := by
                rw [hz3.2.get (by omega), e1, List.getD_eq_getElem?_getD]
                simp
              repeat (first | refine tr_mgr rfl (by decide) rfl ?_ | refine tr_mgi rfl (by decide) (by decide) rfl ?_ | refine tr_mv rfl (fun _ => rfl) ?_)
              rw [hz3.1]
              refine tr_cmp2 rfl (m32_of (by omega)) (m32_of (by omega)) (fun c1 => absurd c1 (by show ¬ _ ≤ _; omega)) (fun _ => ?_)
              repeat (first | refine tr_mgr rfl (by decide) rfl ?_ | refine tr_mgi rfl (by decide) (by decide) rfl ?_ | refine tr_mv rfl (fun _ => rfl) ?_)
              refine tr_man (j := 0 + done.length) rfl (by omega) (by omega) rfl (fun _ => rfl) rfl rfl rfl ?_
              rw [hgy]
              iterate 2 (refine tr_mv rfl (fun _ => rfl) ?_)
              refine tr_vc (q := 480) rfl isO_480 rfl rfl rfl (s_263 k1 (by simp; omega) (fun σ4 q1 q2 => ?_))
              iterate 2 (refine tr_mv rfl (fun _ => rfl) ?_)
              show Tr Ls N 265 43 [some (mP (some 480)), some (mI (T : Int)), some (mI (d : Int)), some (mI lv), some (mI ((done.length : Int) + 1))] [] σ4 post
              rw [show (done.length : Int) + 1 = ((done ++ [y]).length : Int) by simp]
              exact ih2 (done ++ [y]) σ4 (by rw [e1]; simp) (by simpa using q1) (k2.tr q2)
          iterate 2 (refine tr_mv rfl (fun _ => rfl) ?_)
          exact hlast R [] σ2 rfl (by simpa using hK2) only.rf
        · have c2 : lv = 3 := Decidable.byContradiction c2
          iterate 1 (refine tr_mv rfl (fun _ => rfl) ?_)
          refine tr_vc (q := 480) rfl isO_480 rfl rfl rfl (s_264 z1 hrow (by omega) hK2 (by omega) (fun σ3 q1 q2 => ?_))
          iterate 1 (refine tr_mv rfl (fun _ => rfl) ?_)
          exact h71 _ _ σ3 (by rw [if_pos (Or.inr c2)]) q1 q2
  iterate 2 (refine tr_mv rfl (fun _ => rfl) ?_)
  refine tr_mpi rfl (Or.inl rfl) (by decide) rfl ?_
  iterate 2 (refine tr_mv rfl (fun _ => rfl) ?_)
  refine loop d 1 none _ [] (by omega) (by omega) (g1.el (C := cKy) (only.rf.setF (Or.inr ⟨rfl, rfl⟩)) (fun q i h1 h2 => by omega) (by omega)) (hO1.el (C := cKy) (only.rf.setF (Or.inr ⟨rfl, rfl⟩)) (fun i => by omega)) ⟨setF_same _ _ _ _, fun i hi => absurd hi (Nat.not_lt_zero _)⟩ ?_ ((g3.wk (fun q i h => Or.inl h)).setF (Or.inr (Or.inr (Or.inr ⟨rfl, rfl⟩)))) K
  have : d * ((gthR D (o 2) ss).1.length + 1) ≤ 4 * (3 * 31 + 1) := Nat.mul_le_mul hd (by omega)
  simp
  omega
theorem s_266 (hK : mkM σ ks) (hl : ks.length ≤ 376) (K : ∀ σ', moM σ' ks → only cOt σ σ' → post (.inl none) σ') : Tr Ls N 266 0 [some (mP (some 480)), none] [] σ post := by
  have loop : ∀ (d j : Nat) (σ' : Sg), j + d = ks.length → (∀ i, i < j → σ'.2 511 (0 + i) = ks.getD i 0) → only cOt σ σ' → Tr Ls N 266 2 [some (mP (some 480)), some (mI (j : Int))] [] σ' post := by
    intro d
    induction d with
    | zero =>
      intro j σ' e h2 ho
      have hk := hK.el ho (fun i => by omega) (by omega)
      repeat (first | refine tr_mgr rfl (by decide) rfl ?_ | refine tr_mgi rfl (by decide) (by decide) rfl ?_ | refine tr_mv rfl (fun _ => rfl) ?_)
      rw [hk.1]
      refine tr_cmp2 rfl (m32_of (by omega)) (m32_of (by omega)) (fun _ => ?_) (fun c1 => absurd (show (ks.length : Int) ≤ (j : Int) by omega) c1)
      repeat (first | refine tr_mgr rfl (by decide) rfl ?_ | refine tr_mgi rfl (by decide) (by decide) rfl ?_ | refine tr_mv rfl (fun _ => rfl) ?_)
      rw [hk.1]
      refine tr_mpi rfl (Or.inl rfl) (by decide) rfl ?_
      exact tr_ret rfl (fun _ => rfl) (K _ ⟨setF_same _ _ _ _, fun i hi => (setF_ne _ _ (by omega)).trans (h2 i (by omega))⟩ (ho.setF (Or.inr ⟨rfl, rfl⟩)))
    | succ d ih =>
      intro j σ' e h2 ho
      have hk := hK.el ho (fun i => by omega) (by omega)
      repeat (first | refine tr_mgr rfl (by decide) rfl ?_ | refine tr_mgi rfl (by decide) (by decide) rfl ?_ | refine tr_mv rfl (fun _ => rfl) ?_)
      rw [hk.1]
      refine tr_cmp2 rfl (m32_of (by omega)) (m32_of (by omega)) (fun c1 => absurd c1 (by show ¬ _ ≤ _; omega)) (fun _ => ?_)
      repeat (first | refine tr_mgr rfl (by decide) rfl ?_ | refine tr_mgi rfl (by decide) (by decide) rfl ?_ | refine tr_mv rfl (fun _ => rfl) ?_)
      refine tr_man (j := 0 + j) rfl (by omega) (by omega) rfl (fun _ => rfl) rfl rfl rfl ?_
      rw [hk.2.get (by omega)]
      refine tr_msn (j := 0 + j) rfl (by omega) (by omega) rfl (fun _ => rfl) rfl rfl rfl ?_
      iterate 2 (refine tr_mv rfl (fun _ => rfl) ?_)
      show Tr Ls N 266 2 [some (mP (some 480)), some (mI ((j : Int) + 1))] [] _ post
      rw [show (j : Int) + 1 = ((j + 1 : Nat) : Int) by omega]
      refine ih (j + 1) _ (by omega) (fun i hi => ?_) (ho.setF (Or.inl rfl))
      rw [setF_get]
      by_cases e2 : i = j
      · rw [if_pos ⟨rfl, by omega⟩, e2]
      · rw [if_neg (fun g => e2 (by omega))]
        exact h2 i (by omega)
  iterate 2 (refine tr_mv rfl (fun _ => rfl) ?_)
  exact loop ks.length 0 σ (by omega) (fun i hi => absurd hi (Nat.not_lt_zero _)) only.rf
theorem s_267 (hK : mkM σ ks) (hJ : moM σ js) (hlk : ks.length ≤ 376) (hlj : js.length ≤ 376) (hik : ∀ w ∈ ks, in32 w) (hij : ∀ w ∈ js, in32 w) (K : post (.inl (some (mI (cmpL js ks)))) σ) : Tr Ls N 267 0 [some (mP (some 480)), none] [] σ post := by
  have loop : ∀ (r1 r2 d1 d2 : List Int), js = d1 ++ r1 → ks = d2 ++ r2 → d2.length = d1.length → post (.inl (some (mI (cmpL r1 r2)))) σ → Tr Ls N 267 2 [some (mP (some 480)), some (mI (d1.length : Int))] [] σ post := by
    intro r1
    have hend : ∀ (r1 r2 d1 d2 : List Int), js = d1 ++ r1 → ks = d2 ++ r2 → d2.length = d1.length → (r1 = [] ∨ r2 = []) → post (.inl (some (mI (cmpL r1 r2)))) σ → Tr Ls N 267 60 [some (mP (some 480)), some (mI (d1.length : Int))] [] σ post := by
      intro r1 r2 d1 d2 e1 e2 hd hor K'
      have g1 : js.length = d1.length + r1.length := by rw [e1]; simp
      have g2 : ks.length = d2.length + r2.length := by rw [e2]; simp
      have hv : cmpL r1 r2 = if (js.length : Int) < ks.length then -1 else if (ks.length : Int) < js.length then 1 else 0 := by
        cases r1 with
        | nil =>
          cases r2 with
          | nil => rw [if_neg (by simp at g1 g2; omega), if_neg (by simp at g1 g2; omega)]; rfl
          | cons z zs => rw [if_pos (by simp at g1 g2; omega)]; rfl
        | cons z zs =>
          cases r2 with
          | nil => rw [if_neg (by simp at g1 g2; omega), if_pos (by simp at g1 g2; omega)]; rfl
          | cons z' zs' => simp at hor
      rw [hv] at K'
      iterate 1 (refine tr_mv rfl (fun _ => rfl) ?_)
      refine tr_mgi rfl (by decide) (by decide) rfl ?_
      iterate 1 (refine tr_mv rfl (fun _ => rfl) ?_)
      refine tr_mgi rfl (by decide) (by decide) rfl ?_
      rw [hJ.1, hK.1]
      refine tr_cmp2 rfl (m32_of (by omega)) (m32_of (by omega)) (fun c1 => ?_) (fun c1 => ?_)
      · iterate 1 (refine tr_mv rfl (fun _ => rfl) ?_)
        refine tr_mgi rfl (by decide) (by decide) rfl ?_
        iterate 1 (refine tr_mv rfl (fun _ => rfl) ?_)
        refine tr_mgi rfl (by decide) (by decide) rfl ?_
        rw [hJ.1, hK.1]
        refine tr_cmp2 rfl (m32_of (by omega)) (m32_of (by omega)) (fun c2 => ?_) (fun c2 => ?_)
        · rw [if_neg (by omega), if_neg (by omega)] at K'
          iterate 1 (refine tr_mv rfl (fun _ => rfl) ?_)
          exact tr_ri rfl rfl K'
        · rw [if_neg (by omega), if_pos (by omega)] at K'
          iterate 2 (refine tr_mv rfl (fun _ => rfl) ?_)
          exact tr_ri rfl rfl K'
      · rw [if_pos (by omega)] at K'
        iterate 2 (refine tr_mv rfl (fun _ => rfl) ?_)
        exact tr_ri rfl rfl K'
    induction r1 with
    | nil =>
      intro r2 d1 d2 e1 e2 hd K'
      have g1 : js.length = d1.length := by rw [e1]; simp
      iterate 2 (refine tr_mv rfl (fun _ => rfl) ?_)
      refine tr_mgi rfl (by decide) (by decide) rfl ?_
      rw [hJ.1]
      refine tr_cmp2 rfl (m32_of (by omega)) (m32_of (by omega)) (fun _ => ?_) (fun c1 => absurd (show (js.length : Int) ≤ (d1.length : Int) by omega) c1)
      exact hend [] r2 d1 d2 e1 e2 hd (Or.inl rfl) K'
    | cons z r1 ih =>
      intro r2 d1 d2 e1 e2 hd K'
      have g1 : js.length = d1.length + 1 + r1.length := by rw [e1]; simp; omega
      have hz := hij z (by rw [e1]; simp)
      iterate 2 (refine tr_mv rfl (fun _ => rfl) ?_)
      refine tr_mgi rfl (by decide) (by decide) rfl ?_
      rw [hJ.1]
      refine tr_cmp2 rfl (m32_of (by omega)) (m32_of (by omega)) (fun c1 => absurd c1 (by show ¬ _ ≤ _; omega)) (fun _ => ?_)
      iterate 2 (refine tr_mv rfl (fun _ => rfl) ?_)
      refine tr_mgi rfl (by decide) (by decide) rfl ?_
      rw [hK.1]
      cases r2 with
      | nil =>
        have g2 : ks.length = d2.length := by rw [e2]; simp
        refine tr_cmp2 rfl (m32_of (by omega)) (m32_of (by omega)) (fun _ => ?_) (fun c1 => absurd (show (ks.length : Int) ≤ (d1.length : Int) by omega) c1)
        exact hend (z :: r1) [] d1 d2 e1 e2 hd (Or.inr rfl) K'
      | cons z' r2 =>
        have g2 : ks.length = d2.length + 1 + r2.length := by rw [e2]; simp; omega
        have hz' := hik z' (by rw [e2]; simp)
        have ej : σ.2 511 (0 + d1.length) = z := by
          rw [hJ.2.get (by omega), e1, List.getD_eq_getElem?_getD]
          simp
        have ek : σ.2 510 (0 + d1.length) = z' := by
          rw [hK.2.get (by omega), e2, List.getD_eq_getElem?_getD, ← hd]
          simp
        refine tr_cmp2 rfl (m32_of (by omega)) (m32_of (by omega)) (fun c1 => absurd c1 (by show ¬ _ ≤ _; omega)) (fun _ => ?_)
        unfold cmpL at K'
        repeat (first | refine tr_mgr rfl (by decide) rfl ?_ | refine tr_mgi rfl (by decide) (by decide) rfl ?_ | refine tr_mv rfl (fun _ => rfl) ?_)
        refine tr_man (j := 0 + d1.length) rfl (by omega) (by omega) rfl (fun _ => rfl) rfl rfl rfl ?_
        rw [ej]
        repeat (first | refine tr_mgr rfl (by decide) rfl ?_ | refine tr_mgi rfl (by decide) (by decide) rfl ?_ | refine tr_mv rfl (fun _ => rfl) ?_)
        refine tr_man (j := 0 + d1.length) rfl (by omega) (by omega) rfl (fun _ => rfl) rfl rfl rfl ?_
        rw [ek]
        refine tr_cmp2 rfl (m32_of (by omega)) (m32_of (by omega)) (fun c2 => ?_) (fun c2 => ?_)
        · rw [if_pos c2] at K'
          iterate 2 (refine tr_mv rfl (fun _ => rfl) ?_)
          show Tr Ls N 267 2 [some (mP (some 480)), some (mI ((d1.length : Int) + 1))] [] _ post
          rw [show (d1.length : Int) + 1 = ((d1 ++ [z]).length : Int) by simp]
          exact ih r2 (d1 ++ [z]) (d2 ++ [z']) (by rw [e1]; simp) (by rw [e2]; simp) (by simp; omega) K'
        · rw [if_neg c2] at K'
          repeat (first | refine tr_mgr rfl (by decide) rfl ?_ | refine tr_mgi rfl (by decide) (by decide) rfl ?_ | refine tr_mv rfl (fun _ => rfl) ?_)
          refine tr_man (j := 0 + d1.length) rfl (by omega) (by omega) rfl (fun _ => rfl) rfl rfl rfl ?_
          rw [ej]
          repeat (first | refine tr_mgr rfl (by decide) rfl ?_ | refine tr_mgi rfl (by decide) (by decide) rfl ?_ | refine tr_mv rfl (fun _ => rfl) ?_)
          refine tr_man (j := 0 + d1.length) rfl (by omega) (by omega) rfl (fun _ => rfl) rfl rfl rfl ?_
          rw [ek]
          refine tr_cmp2 rfl (m32_of (by omega)) (m32_of (by omega)) (fun c3 => ?_) (fun c3 => ?_)
          · rw [if_neg (by omega)] at K'
            iterate 1 (refine tr_mv rfl (fun _ => rfl) ?_)
            exact tr_ri rfl rfl K'
          · rw [if_pos (by omega)] at K'
            iterate 2 (refine tr_mv rfl (fun _ => rfl) ?_)
            exact tr_ri rfl rfl K'
  iterate 2 (refine tr_mv rfl (fun _ => rfl) ?_)
  exact loop js ks [] [] rfl rfl rfl K
end MKEYS
