/-! Texts and entries on the class's side; sort forms; putting into an order. -/
abbrev EnT : Type := Nat × Int × Nat × Int × Nat × Int × Nat × List Int × List Int
def enD : EnT := (0, -1, 0, 0, 0, -1, 0, [], [])
abbrev enT (e : EnT) : Nat := e.1
abbrev enP (e : EnT) : Int := e.2.1
abbrev enS (e : EnT) : Nat := e.2.2.1
abbrev enK (e : EnT) : Int := e.2.2.2.1
abbrev enA (e : EnT) : Nat := e.2.2.2.2.1
abbrev enX (e : EnT) : Int := e.2.2.2.2.2.1
abbrev enO (e : EnT) : Nat := e.2.2.2.2.2.2.1
abbrev enL (e : EnT) : List Int := e.2.2.2.2.2.2.2.1
abbrev enM (e : EnT) : List Int := e.2.2.2.2.2.2.2.2
/-- texts, taken apart -/
def cTx (σ : Sg) (tx : List (List Int)) : Prop := σ.2 2 4 = (tx.length : Int) ∧ ∀ i, i < tx.length → σ.1 (153 + 4 * i) = tx.getD i []
def okTx (tx : List (List Int)) : Prop := tx.length ≤ 30 ∧ ∀ t ∈ tx, okA40 t ∧ 1 ≤ t.length ∧ t.length ≤ 30
def cEn (σ : Sg) (en : List EnT) : Prop := σ.2 2 9 = (en.length : Int) ∧ (∀ i, i < en.length → σ.2 (360 + 5 * i) 0 = (enT (en.getD i enD) : Int) ∧ σ.2 (360 + 5 * i) 1 = enP (en.getD i enD) ∧ σ.2 (360 + 5 * i) 2 = (enS (en.getD i enD) : Int)) ∧
  ∀ i, i < 24 → σ.2 (360 + 5 * i) 3 = enK (en.getD i enD) ∧ σ.2 (360 + 5 * i) 4 = (enA (en.getD i enD) : Int) ∧ σ.2 (360 + 5 * i) 7 = enX (en.getD i enD) ∧ σ.2 (360 + 5 * i) 8 = (enO (en.getD i enD) : Int) ∧ σ.1 ((360 + 5 * i) + 1) = enL (en.getD i enD)
/-- an entry by itself -/
def okE1 (tx : List (List Int)) (n : Nat) (e : EnT) : Prop := enT e < tx.length ∧ (1 ≤ enS e ∧ enS e ≤ 7) ∧ (0 ≤ enK e ∧ enK e ≤ 2) ∧ (enK e = 0 → enA e = 0) ∧ enA e < (tx.getD (enT e) []).length ∧ (enX e = -1 ∨ (0 ≤ enX e ∧ enX e < n)) ∧ enO e < 2 ^ n
def okEn (tx : List (List Int)) (en : List EnT) : Prop := en.length ≤ 24 ∧ (∀ e ∈ en, okE1 tx en.length e) ∧ ∀ i, i < en.length → enP (en.getD i enD) = -1 ∨ ∃ p : Nat, enP (en.getD i enD) = (p : Int) ∧ p < en.length ∧ enP (en.getD p enD) = -1 ∧ enS (en.getD i enD) = enS (en.getD p enD)
/-- the sort form -/
def frm (tx : List (List Int)) (e : EnT) : List Int := (tx.getD (enT e) []).drop (enA e) ++ (if enK e = 2 then 28 :: (tx.getD (enT e) []).take (enA e) else [])
abbrev ci (l : List Nat) : List Int := l.map (fun (e : Nat) => (e : Int))
/-- rows and numbers that asking for an order changes -/
abbrev isKy (a : Nat) : Prop := 155 ≤ a ∧ a ≤ 271 ∧ a % 4 = 3
abbrev orR (x a : Nat) : Prop := colR a ∨ a = 142 ∨ a = 144 ∨ isKy a ∨ a = 295 + 29 * x + 1 ∨ a = 295 + 29 * x + 3
abbrev orC (x q i : Nat) : Prop := ((q = 109 ∨ q = 120) ∧ i = 5) ∨ (q = 295 + 29 * x ∧ i = 3)
theorem insIdx_mid (v : Int) (ys : List Int) : ∀ (xs : List Int), (xs ++ ys).insertIdx xs.length v = xs ++ v :: ys
  | [] => by cases ys <;> rfl
  | x :: xs => by
    show (x :: (xs ++ ys)).insertIdx (xs.length + 1) v = _
    rw [List.insertIdx_succ_cons, insIdx_mid v ys xs]
    rfl
theorem okTx_get {tx : List (List Int)} (h : okTx tx) {i : Nat} (hi : i < tx.length) : okA40 (tx.getD i []) ∧ 1 ≤ (tx.getD i []).length ∧ (tx.getD i []).length ≤ 30 := by
  refine h.2 _ ?_
  rw [List.getD_eq_getElem?_getD, List.getElem?_eq_getElem hi]
  exact List.getElem_mem _
theorem en_mem {en : List EnT} {i : Nat} (hi : i < en.length) : en.getD i enD ∈ en := by
  rw [List.getD_eq_getElem?_getD, List.getElem?_eq_getElem hi]
  exact List.getElem_mem _
theorem frm_ok {tx : List (List Int)} {n : Nat} {e : EnT} (h : okTx tx) (he : okE1 tx n e) : okA40 (frm tx e) ∧ (frm tx e).length ≤ 31 ∧ 1 ≤ (frm tx e).length := by
  obtain ⟨h1, h2, h3⟩ := okTx_get h he.1
  have h4 := he.2.2.2.2.1
  unfold frm
  refine ⟨fun s hs => ?_, ?_, ?_⟩
  · rcases List.mem_append.mp hs with g | g
    · exact h1 s (List.mem_of_mem_drop g)
    · split at g
      · rcases List.mem_cons.mp g with g | g
        · omega
        · exact h1 s (List.mem_of_mem_take g)
      · cases g
  · rw [List.length_append, List.length_drop]
    split
    · rw [List.length_cons, List.length_take]
      omega
    · simp only [List.length_nil]
      omega
  · rw [List.length_append, List.length_drop]
    omega
section ENT
variable {Ls N k pc n n' nn b c t a q kd w d p : Nat} {L L0 : mLs} {st r as : List mV} {h h' : mH} {σ σ' σ'' : Sg} {post : tP} {x y z x' y' i i' s v m u lv : Int} {xs ys : List Int} {e : mE} {C : Nat → Nat → Prop} {R : Nat → Prop} {tx : List (List Int)} {en : List EnT} {D : TD} {o : Nat → Int}
theorem cTx.of (h : cTx σ tx) (hc : chg R C σ σ') (hl : tx.length ≤ 30) (hR : ∀ a, R a → ¬ (153 ≤ a ∧ a ≤ 269 ∧ a % 4 = 1)) (hC : ¬ C 2 4) : cTx σ' tx := ⟨(hc.2 2 4 hC).trans h.1, fun i hi => (hc.1 _ (fun g => hR _ g ⟨by omega, by omega, by omega⟩)).trans (h.2 i hi)⟩
theorem cEn.of (h : cEn σ en) (hc : chg R C σ σ') (hl : en.length ≤ 24) (hR : ∀ a, R a → ¬ (361 ≤ a ∧ a ≤ 476 ∧ a % 5 = 1)) (hC : ¬ C 2 9) (hC2 : ∀ q i, C q i → ¬ (360 ≤ q ∧ q ≤ 475)) : cEn σ' en := by
  have h2 : ∀ i j, i < 24 → σ'.2 (360 + 5 * i) j = σ.2 (360 + 5 * i) j := fun i j hi => hc.2 _ _ (fun g => hC2 _ _ g ⟨by omega, by omega⟩)
  refine ⟨(hc.2 2 9 hC).trans h.1, fun i hi => ?_, fun i hi => ?_⟩
  · rw [h2 i _ (by omega), h2 i _ (by omega), h2 i _ (by omega)]
    exact h.2.1 i hi
  · rw [h2 i _ hi, h2 i _ hi, h2 i _ hi, h2 i _ hi, hc.1 _ (fun g => hR _ g ⟨by omega, by omega, by omega⟩)]
    exact h.2.2 i hi
theorem tlC.of (h : tlC t σ D) (hc : chg R C σ σ') (hR : ∀ a, R a → ¬ rT t a) : tlC t σ' D := by
  have hq : ∀ o, 0 < o → o < 20 → σ'.1 (t + o) = σ.1 (t + o) := fun o o1 o2 => hc.1 _ (fun e => hR _ e ⟨by omega, by omega⟩)
  obtain ⟨h1, h2, h3, h4, h5, h6, h7⟩ := h
  exact ⟨(hq 1 (by decide) (by decide)).trans h1, (hq 3 (by decide) (by decide)).trans h2, (hq 5 (by decide) (by decide)).trans h3, (hq 7 (by decide) (by decide)).trans h4, (hq 9 (by decide) (by decide)).trans h5, (hq 11 (by decide) (by decide)).trans h6, (hq 13 (by decide) (by decide)).trans h7⟩
theorem opC.of (h : opC t σ o) (hc : chg R C σ σ') (hC : ∀ j, ¬ C (t + 21) j) : opC t σ' o := fun j hj => by
  rw [hc.2 _ _ (hC j)]
  exact h j hj
theorem r_142 : isRow 142 31 := ⟨by decide, by decide +kernel, by decide +kernel⟩
theorem r_144 : isRow 144 30 := ⟨by decide, by decide +kernel, by decide +kernel⟩
theorem s_54 (ht : isE t) {m : Nat} (hs : σ.2 t 2 = (m : Int)) (hm : m < 8) (hp : p < 3) (K : post (.inl (some (mI (b2 (m / 2 ^ p % 2 = 1))))) σ) : Tr Ls N 54 0 [some (mP (some t)), some (mI (p : Int))] [] σ post := by
  iterate 1 (refine tr_mv rfl (fun _ => rfl) ?_)
  refine tr_gi rfl (by decide) (E_O ht) (by decide) (E_c ht) (E_n ht).2.2.1 ?_
  rw [hs]
  iterate 2 (refine tr_mv rfl (fun _ => rfl) ?_)
  rw [w_shr (show m < 2 ^ 31 by omega) (show p < 31 by omega)]
  iterate 1 (refine tr_mv rfl (fun _ => rfl) ?_)
  refine tr_mv rfl (fun _ => rfl) ?_
  rw [w_a1 (Nat.lt_of_le_of_lt (Nat.div_le_self _ _) (show m < 2 ^ 31 by omega))]
  iterate 1 (refine tr_mv rfl (fun _ => rfl) ?_)
  have h2 : m / 2 ^ p % 2 < 2 := Nat.mod_lt _ (by decide)
  refine tr_cmp2 rfl (m32_of (by omega)) (m32_of (by omega)) (fun c1 => ?_) (fun c1 => ?_)
  · iterate 1 (refine tr_mv rfl (fun _ => rfl) ?_)
    exact tr_rb0 rfl (fun g => c1 (by rw [g]; rfl)) K
  · iterate 2 (refine tr_mv rfl (fun _ => rfl) ?_)
    exact tr_rb1 rfl (by omega) K
theorem s_193 (hp : p < 24) {tt at0 : Nat} {ts : List Int} {kk : Int} (h0 : σ.2 (360 + 5 * p) 0 = (tt : Int)) (h3 : σ.2 (360 + 5 * p) 3 = kk) (h4 : σ.2 (360 + 5 * p) 4 = (at0 : Int)) (ht : tt < 30) (hts : σ.1 (153 + 4 * tt) = ts) (hat : at0 ≤ ts.length) (hk : 0 ≤ kk ∧ kk ≤ 2) (K : post (.inl none) (setR σ 142 (ts.drop at0 ++ (if kk = 2 then 28 :: ts.take at0 else [])))) :
    Tr Ls N 193 0 [some (mP (some 2)), some (mP (some (360 + 5 * p))), some (mP (some 142)), none] [] σ post := by
  refine tr_fact fun ⟨_, hr⟩ => ?_
  have hl := rep_len hr (r_T ht)
  rw [hts] at hl
  have hne : 142 ≠ (153 + 4 * tt) := by omega
  iterate 2 (refine tr_mv rfl (fun _ => rfl) ?_)
  refine tr_vc (q := (360 + 5 * p)) rfl (E_O (e_E hp)) rfl rfl rfl (s_50 (e_E hp) ?_)
  rw [h0]
  refine tr_vc (q := 2) rfl ⟨by decide, by decide +kernel⟩ rfl rfl rfl (s_169 ht ?_)
  iterate 2 (refine tr_mv rfl (fun _ => rfl) ?_)
  refine tr_clear r_142 rfl rfl ?_
  iterate 3 (refine tr_mv rfl (fun _ => rfl) ?_)
  refine tr_vc (q := (360 + 5 * p)) rfl (E_O (e_E hp)) rfl rfl rfl (s_56 (e_E hp) ?_)
  rw [show (setR σ 142 []).2 (360 + 5 * p) 4 = (at0 : Int) from h4]
  iterate 1 (refine tr_mv rfl (fun _ => rfl) ?_)
  refine tr_size (r_T ht) rfl rfl ?_
  have e1 : (setR σ 142 []).1 (153 + 4 * tt) = ts := by rw [setR_ne _ _ (Ne.symm hne)]; exact hts
  rw [e1]
  refine tr_vc (q := 142) rfl ⟨by decide, by decide +kernel⟩ rfl rfl rfl (s_101 r_142 (r_T ht) hne (by rw [e1]; omega) (by rw [setR_same]; simp; omega) ?_)
  rw [setR_same, setR_setR, e1, List.nil_append, Int.toNat_natCast, Int.toNat_natCast, List.take_length]
  iterate 1 (refine tr_mv rfl (fun _ => rfl) ?_)
  have h57 : (setR σ 142 (ts.drop at0)).2 (360 + 5 * p) 3 = kk := h3
  refine tr_vc (q := (360 + 5 * p)) rfl (E_O (e_E hp)) rfl rfl rfl (s_57 (e_E hp) (by rw [h57]; omega) ?_)
  rw [h57]
  first | refine tr_ib rfl (fun c1 => ?_) (fun c1 => ?_) | refine tr_ibn rfl (fun c1 => ?_) (fun c1 => ?_)
  · rw [if_neg c1, List.append_nil] at K
    exact tr_ret rfl (fun _ => rfl) K
  · rw [if_pos c1] at K
    have hdl : (ts.drop at0).length = ts.length - at0 := List.length_drop
    iterate 2 (refine tr_mv rfl (fun _ => rfl) ?_)
    refine tr_put r_142 (by omega) rfl rfl ?_
    rw [setR_same, rput_lt (by omega), setR_setR]
    iterate 4 (refine tr_mv rfl (fun _ => rfl) ?_)
    refine tr_vc (q := (360 + 5 * p)) rfl (E_O (e_E hp)) rfl rfl rfl (s_56 (e_E hp) ?_)
    rw [show (setR σ 142 (ts.drop at0 ++ [28])).2 (360 + 5 * p) 4 = (at0 : Int) from h4]
    have e2 : (setR σ 142 (ts.drop at0 ++ [28])).1 (153 + 4 * tt) = ts := by rw [setR_ne _ _ (Ne.symm hne)]; exact hts
    refine tr_vc (q := 142) rfl ⟨by decide, by decide +kernel⟩ rfl rfl rfl (s_101 r_142 (r_T ht) hne (by rw [e2]; omega) (by rw [setR_same]; simp; omega) ?_)
    rw [setR_same, setR_setR, e2, Int.toNat_natCast, show (0 : Int).toNat = 0 from rfl, List.drop_zero]
    refine tr_ret rfl (fun _ => rfl) ?_
    simpa using K
theorem s_191 (hb : isRow b n) (hbk : ¬ isKy b) {kf : Nat → List Int} {pre : List Nat} (hp : p < 30) (hkp : σ.1 (155 + 4 * p) = kf p) : ∀ (ra B : List Nat), σ.1 b = ci (pre ++ (ra.reverse ++ B)) → (∀ y ∈ ra, y < 30 ∧ σ.1 (155 + 4 * y) = kf y) → pre.length + ra.length + B.length < n → post (.inl none) (setR σ b (ci (pre ++ ((insR (gtC kf p) p ra).reverse ++ B)))) →
    Tr Ls N 191 6 [some (mP (some 2)), some (mP (some b)), some (mI (pre.length : Int)), some (mI (p : Int)), some (mI ((pre.length + ra.length : Nat) : Int))] [] σ post := by
  have hsm := isRow_small hb
  have hend : ∀ (ra B : List Nat), σ.1 b = ci (pre ++ (ra.reverse ++ B)) → pre.length + ra.length + B.length < n → post (.inl none) (setR σ b (ci (pre ++ (ra.reverse ++ p :: B)))) → Tr Ls N 191 41 [some (mP (some 2)), some (mP (some b)), some (mI (pre.length : Int)), some (mI (p : Int)), some (mI ((pre.length + ra.length : Nat) : Int))] [] σ post := by
    intro ra B e hl K
    iterate 3 (refine tr_mv rfl (fun _ => rfl) ?_)
    refine tr_insert hb (by omega) rfl rfl ?_
    rw [m32_nat (by omega), e]
    refine tr_ret rfl (fun _ => rfl) ?_
    have e2 : rins n (ci (pre ++ (ra.reverse ++ B))) ((pre.length + ra.length : Nat) : Int) (p : Int) = ci (pre ++ (ra.reverse ++ p :: B)) := by
      unfold rins
      rw [if_pos (by simp; omega), Int.toNat_natCast, show ci (pre ++ (ra.reverse ++ B)) = ci (pre ++ ra.reverse) ++ ci B by simp, show pre.length + ra.length = (ci (pre ++ ra.reverse)).length by simp, insIdx_mid]
      simp
    rw [e2]
    exact K
  intro ra
  induction ra with
  | nil =>
    intro B e hk hl K
    iterate 2 (refine tr_mv rfl (fun _ => rfl) ?_)
    refine tr_cmp2 rfl (m32_of (by omega)) (m32_of (by omega)) (fun _ => ?_) (fun c1 => absurd (show ((pre.length + ([] : List Nat).length : Nat) : Int) ≤ (pre.length : Int) by simp) c1)
    exact hend [] B e hl K
  | cons y ra ih =>
    intro B e hk hl K
    have hl2 : (y :: ra).length = ra.length + 1 := rfl
    obtain ⟨hy, hky⟩ := hk y List.mem_cons_self
    have hg : rget (σ.1 b) ((pre.length + ra.length : Nat) : Int) = (y : Int) := by
      rw [e, show ci (pre ++ ((y :: ra).reverse ++ B)) = ci (pre ++ ra.reverse) ++ (y : Int) :: ci B by simp]
      exact rget_mid (by simp)
    have hci := cmpL_in (kf y) (kf p)
    unfold insR at K
    iterate 2 (refine tr_mv rfl (fun _ => rfl) ?_)
    refine tr_cmp2 rfl (m32_of (by omega)) (m32_of (by omega)) (fun c1 => absurd c1 (by show ¬ _ ≤ _; omega)) (fun _ => ?_)
    iterate 5 (refine tr_mv rfl (fun _ => rfl) ?_)
    rw [show ((pre.length + (y :: ra).length : Nat) : Int) - 1 = ((pre.length + ra.length : Nat) : Int) by omega]
    refine tr_at2 hb (m32_of (by omega)) rfl rfl ?_
    rw [hg]
    refine tr_vc (q := 2) rfl ⟨by decide, by decide +kernel⟩ rfl rfl rfl (s_170 hy ?_)
    iterate 2 (refine tr_mv rfl (fun _ => rfl) ?_)
    refine tr_vc (q := 2) rfl ⟨by decide, by decide +kernel⟩ rfl rfl rfl (s_170 hp ?_)
    refine tr_stat rfl rfl rfl (s_192 (r_K hy) (r_K hp) ?_)
    rw [hky, hkp]
    refine tr_if2 rfl (m32_of (by omega)) (fun c2 => ?_) (fun c2 => ?_)
    · have c2 : cmpL (kf y) (kf p) ≤ 0 := c2
      rw [if_neg (by unfold gtC; rw [decide_eq_false (by omega)]; simp)] at K
      exact hend (y :: ra) B e hl (by simpa using K)
    · have c2 : ¬ cmpL (kf y) (kf p) ≤ 0 := c2
      rw [if_pos (by unfold gtC; rw [decide_eq_true (by omega)])] at K
      iterate 2 (refine tr_mv rfl (fun _ => rfl) ?_)
      show Tr Ls N 191 6 [some (mP (some 2)), some (mP (some b)), some (mI (pre.length : Int)), some (mI (p : Int)), some (mI (((pre.length + (y :: ra).length : Nat) : Int) + -1))] [] σ post
      rw [show ((pre.length + (y :: ra).length : Nat) : Int) + -1 = ((pre.length + ra.length : Nat) : Int) by omega]
      exact ih (y :: B) (by rw [e]; simp) (fun z hz => hk z (List.mem_cons_of_mem _ hz)) (by simp; omega) (by simpa using K)
theorem s_191m (hb : isRow b n) (hbk : ¬ isKy b) {kf : Nat → List Int} {pre l : List Nat} (hp : p < 30) (hkp : σ.1 (155 + 4 * p) = kf p) (e : σ.1 b = ci (pre ++ l)) (hk : ∀ y ∈ l, y < 30 ∧ σ.1 (155 + 4 * y) = kf y) (hl : pre.length + l.length < n) (hx : x = (pre.length : Int)) (K : post (.inl none) (setR σ b (ci (pre ++ insK kf l p)))) :
    Tr Ls N 191 0 [some (mP (some 2)), some (mP (some b)), some (mI x), some (mI (p : Int)), none] [] σ post := by
  subst hx
  have hsm := isRow_small hb
  iterate 1 (refine tr_mv rfl (fun _ => rfl) ?_)
  refine tr_size hb rfl rfl ?_
  rw [e]
  iterate 1 (refine tr_mv rfl (fun _ => rfl) ?_)
  have h9 := s_191 (Ls := Ls) (N := N) (post := post) (σ := σ) (pre := pre) hb hbk hp hkp l.reverse [] (by rw [e]; simp) (fun y hy => hk y (List.mem_reverse.mp hy)) (by simp; omega) (by simpa [insK] using K)
  rw [List.length_reverse] at h9
  rw [show ((ci (pre ++ l)).length : Int) = ((pre.length + l.length : Nat) : Int) by simp]
  exact h9
end ENT
