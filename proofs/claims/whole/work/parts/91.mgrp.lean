/-! The model's groups. -/
def gnum (g : Gp) : Int := 1000000 * g.1 + 1000 * g.2.1 + g.2.2
def mgp (σ : Sg) (gs : List Gp) : Prop := σ.2 480 57 = (gs.length : Int) ∧ mseg σ 525 0 (gs.map gnum)
abbrev cGp (q i : Nat) : Prop := q = 525 ∨ (q = 480 ∧ i = 57)
theorem gnum_in {g : Gp} (h : okGp g) : 0 ≤ gnum g ∧ gnum g < 4000000 ∧ gnum g / 1000 % 1000 = g.2.1 ∧ gnum g % 1000 = g.2.2 := by
  obtain ⟨h1, h2, h3⟩ := h
  unfold gnum
  omega
section MGRP
variable {Ls N k pc n n' nn b c t a q kd w d p X T : Nat} {L L0 : mLs} {st r as : List mV} {h h' : mH} {σ σ' σ'' : Sg} {post : tP} {x y z x' y' i i' s v m u lv : Int} {xs ys ss M P : List Int} {e : mE} {C : Nat → Nat → Prop} {R : Nat → Prop} {gs rg : List Gp}
theorem mgp.el (h : mgp σ gs) (ho : only C σ σ') (hC : ∀ i, ¬ C 525 i) (hC2 : ¬ C 480 57) : mgp σ' gs := ⟨(ho.2 _ _ hC2).trans h.1, h.2.only ho (fun i _ _ => hC i)⟩
theorem mgp_get (h : mgp σ gs) {j : Nat} (hj : j < gs.length) : σ.2 525 (0 + j) = gnum (gs.getD j (0, 0, 0)) := by
  rw [h.2.get (by simpa using hj), List.getD_eq_getElem?_getD, List.getElem?_map, List.getD_eq_getElem?_getD, List.getElem?_eq_getElem hj]
  rfl
theorem s_302 (ha : a < 24) (hc : σ.2 519 a = (M.length : Int)) (hm : mseg σ 518 (10 * a) M) (hl : M.length ≤ 10) (hok : ∀ m ∈ M, okLc m) (hx : in32 x) (hy : in32 y) (K : post (.inl (some (mI (nxF M x y)))) σ) : Tr Ls N 302 0 [some (mP (some 480)), some (mI (a : Int)), some (mI x), some (mI y), none, none, none] [] σ post := by
  have loop : ∀ (rest done : List Int) (f : Int) (v6 : Option mV), M = done ++ rest → in32 f → post (.inl (some (mI (rest.foldl (nxS x y) f)))) σ → Tr Ls N 302 9 [some (mP (some 480)), some (mI (a : Int)), some (mI x), some (mI y), some (mI f), some (mI ((10 * a + done.length : Nat) : Int)), v6] [] σ post := by
    intro rest
    induction rest with
    | nil =>
      intro done f v6 e hf K'
      rw [List.append_nil] at e
      have e9 := congrArg List.length e
      repeat (first | refine tr_mgr rfl (by decide) rfl ?_ | refine tr_mgi rfl (by decide) (by decide) rfl ?_ | refine tr_mv rfl (fun _ => rfl) ?_)
      refine tr_man (j := a) rfl (by omega) (by omega) rfl (fun _ => rfl) rfl rfl rfl ?_
      rw [hc]
      iterate 1 (refine tr_mv rfl (fun _ => rfl) ?_)
      refine tr_cmp2 rfl (m32_of (by omega)) (m32_of (by omega)) (fun _ => ?_) (fun c1 => absurd (show 10 * (a : Int) + (M.length : Int) ≤ ((10 * a + done.length : Nat) : Int) by omega) c1)
      iterate 1 (refine tr_mv rfl (fun _ => rfl) ?_)
      exact tr_ri rfl rfl K'
    | cons z rest ih =>
      intro done f v6 e hf K'
      have hlen : M.length = done.length + 1 + rest.length := by rw [e]; simp; omega
      have hz := hok z (by rw [e]; simp)
      have hgz : σ.2 518 (10 * a + done.length) = z := by
        rw [hm.get (by omega), e, List.getD_eq_getElem?_getD]
        simp
      rw [List.foldl_cons] at K'
      have h79 : ∀ w, in32 w → w = nxS x y f z → Tr Ls N 302 79 [some (mP (some 480)), some (mI (a : Int)), some (mI x), some (mI y), some (mI f), some (mI ((10 * a + done.length : Nat) : Int)), some (mI (z % 1000))] [mI w] σ post := by
        intro w hw ew
        rw [← ew] at K'
        iterate 3 (refine tr_mv rfl (fun _ => rfl) ?_)
        show Tr Ls N 302 9 [some (mP (some 480)), some (mI (a : Int)), some (mI x), some (mI y), some (mI w), some (mI (((10 * a + done.length : Nat) : Int) + 1)), some (mI (z % 1000))] [] σ post
        rw [show ((10 * a + done.length : Nat) : Int) + 1 = ((10 * a + (done ++ [z]).length : Nat) : Int) by simp; omega]
        exact ih (done ++ [z]) w _ (by rw [e]; simp) hw K'
      have h77 : ¬ (z / 1000 = x ∧ y < z % 1000 ∧ (f = -1 ∨ z % 1000 < f)) → Tr Ls N 302 77 [some (mP (some 480)), some (mI (a : Int)), some (mI x), some (mI y), some (mI f), some (mI ((10 * a + done.length : Nat) : Int)), some (mI (z % 1000))] [] σ post := by
        intro g
        iterate 1 (refine tr_mv rfl (fun _ => rfl) ?_)
        exact h79 f hf (by unfold nxS; rw [if_neg g])
      have h72 : (z / 1000 = x ∧ y < z % 1000 ∧ (f = -1 ∨ z % 1000 < f)) → Tr Ls N 302 72 [some (mP (some 480)), some (mI (a : Int)), some (mI x), some (mI y), some (mI f), some (mI ((10 * a + done.length : Nat) : Int)), some (mI (z % 1000))] [] σ post := by
        intro g
        iterate 2 (refine tr_mv rfl (fun _ => rfl) ?_)
        exact h79 _ (by omega) (by unfold nxS; rw [if_pos g])
      repeat (first | refine tr_mgr rfl (by decide) rfl ?_ | refine tr_mgi rfl (by decide) (by decide) rfl ?_ | refine tr_mv rfl (fun _ => rfl) ?_)
      refine tr_man (j := a) rfl (by omega) (by omega) rfl (fun _ => rfl) rfl rfl rfl ?_
      rw [hc]
      iterate 1 (refine tr_mv rfl (fun _ => rfl) ?_)
      refine tr_cmp2 rfl (m32_of (by omega)) (m32_of (by omega)) (fun c9 => absurd c9 (by show ¬ _ ≤ _; omega)) (fun _ => ?_)
      repeat (first | refine tr_mgr rfl (by decide) rfl ?_ | refine tr_mgi rfl (by decide) (by decide) rfl ?_ | refine tr_mv rfl (fun _ => rfl) ?_)
      refine tr_man (j := 10 * a + done.length) rfl (by omega) (by omega) rfl (fun _ => rfl) rfl rfl rfl ?_
      rw [hgz]
      iterate 1 (refine tr_mv rfl (fun _ => rfl) ?_)
      refine tr_rem ?_ ?_ rfl ?_; omega; omega
      repeat (first | refine tr_mgr rfl (by decide) rfl ?_ | refine tr_mgi rfl (by decide) (by decide) rfl ?_ | refine tr_mv rfl (fun _ => rfl) ?_)
      refine tr_man (j := 10 * a + done.length) rfl (by omega) (by omega) rfl (fun _ => rfl) rfl rfl rfl ?_
      rw [hgz]
      iterate 1 (refine tr_mv rfl (fun _ => rfl) ?_)
      refine tr_div ?_ ?_ rfl ?_; omega; omega
      iterate 1 (refine tr_mv rfl (fun _ => rfl) ?_)
      refine tr_cmp2 rfl (m32_of (by omega)) (m32_of (by omega)) (fun c1 => ?_) (fun c1 => ?_)
      · exact h77 (fun g => c1 g.1)
      · iterate 2 (refine tr_mv rfl (fun _ => rfl) ?_)
        refine tr_cmp2 rfl (m32_of (by omega)) (m32_of (by omega)) (fun c2 => ?_) (fun c2 => ?_)
        · exact h77 (fun g => by omega)
        · iterate 2 (refine tr_mv rfl (fun _ => rfl) ?_)
          refine tr_cmp2 rfl (m32_of (by omega)) (m32_of (by omega)) (fun c3 => ?_) (fun c3 => ?_)
          · exact h72 ⟨by omega, by omega, Or.inl c3⟩
          · iterate 2 (refine tr_mv rfl (fun _ => rfl) ?_)
            refine tr_cmp2 rfl (m32_of (by omega)) (m32_of (by omega)) (fun c4 => ?_) (fun c4 => ?_)
            · exact h77 (fun g => by omega)
            · exact h72 ⟨by omega, by omega, Or.inr (by omega)⟩
  iterate 6 (refine tr_mv rfl (fun _ => rfl) ?_)
  exact loop M [] (-1) none rfl ⟨by decide, by decide⟩ K
theorem s_303 (hG : mgp σ gs) (hl : gs.length < 16) (K : ∀ σ', mgp σ' (gs ++ [(x, y, z)]) → only cGp σ σ' → post (.inl none) σ') : Tr Ls N 303 0 [some (mP (some 480)), some (mI x), some (mI y), some (mI z)] [] σ post := by
  have hml : (gs.map gnum).length = gs.length := List.length_map _
  repeat (first | refine tr_mgr rfl (by decide) rfl ?_ | refine tr_mgi rfl (by decide) (by decide) rfl ?_ | refine tr_mv rfl (fun _ => rfl) ?_)
  rw [hG.1]
  refine tr_msn (j := 0 + (gs.map gnum).length) rfl (by omega) (by omega) rfl (fun _ => rfl) rfl rfl rfl ?_
  repeat (first | refine tr_mgr rfl (by decide) rfl ?_ | refine tr_mgi rfl (by decide) (by decide) rfl ?_ | refine tr_mv rfl (fun _ => rfl) ?_)
  rw [setF_ne _ _ (by omega), hG.1]
  refine tr_mpi rfl (Or.inl rfl) (by decide) rfl ?_
  refine tr_ret rfl (fun _ => rfl) (K _ ⟨?_, ?_⟩ ((only.rf.setF (Or.inl rfl)).setF (Or.inr ⟨rfl, rfl⟩)))
  · rw [setF_same]
    simp
  · rw [List.map_append]
    exact (hG.2.push (v := 1000000 * x + 1000 * y + z)).keep (fun i _ _ => setF_ne _ _ (by omega))
theorem s_304 {pre B : List Gp} (hG : mgp σ (pre ++ B)) (hok : ∀ g ∈ pre ++ B, okGp g) (hB : ∀ g ∈ B, g.1 = 0) (hl : pre.length + B.length ≤ 10) (hx : x = (pre.length : Int)) (K : ∀ σ', mgp σ' (pre ++ jnA B.length B) → only cGp σ σ' → post (.inl none) σ') : Tr Ls N 304 0 [some (mP (some 480)), some (mI x), none, none, none, none, none] [] σ post := by
  have loop : ∀ (d : Nat) (done suf : List Gp) (σ' : Sg) (v3 v4 v5 v6 : Option mV), suf.length ≤ d → done.length + suf.length ≤ 10 → (∀ g ∈ done ++ suf, okGp g) → (∀ g ∈ suf, g.1 = 0) → mgp σ' (done ++ suf) → only cGp σ σ' → (∀ σ', mgp σ' (done ++ jnA d suf) → only cGp σ σ' → post (.inl none) σ') → Tr Ls N 304 2 [some (mP (some 480)), some (mI x), some (mI (done.length : Int)), v3, v4, v5, v6] [] σ' post := by
    intro d
    induction d with
    | zero =>
      intro done suf σ' v3 v4 v5 v6 h1 h2 hk hz hG' ho K'
      have e : suf = [] := List.length_eq_zero_iff.mp (by omega)
      subst e
      repeat (first | refine tr_mgr rfl (by decide) rfl ?_ | refine tr_mgi rfl (by decide) (by decide) rfl ?_ | refine tr_mv rfl (fun _ => rfl) ?_)
      rw [hG'.1, List.append_nil]
      refine tr_cmp2 rfl (m32_of (by omega)) (m32_of (by omega)) (fun _ => ?_) (fun c9 => absurd (Int.le_refl _) c9)
      exact tr_ret rfl (fun _ => rfl) (K' σ' hG' ho)
    | succ d ih =>
      intro done suf σ' v3 v4 v5 v6 h1 h2 hk hz hG' ho K'
      cases suf with
      | nil =>
        rw [jnA_nil] at K'
        repeat (first | refine tr_mgr rfl (by decide) rfl ?_ | refine tr_mgi rfl (by decide) (by decide) rfl ?_ | refine tr_mv rfl (fun _ => rfl) ?_)
        rw [hG'.1, List.append_nil]
        refine tr_cmp2 rfl (m32_of (by omega)) (m32_of (by omega)) (fun _ => ?_) (fun c9 => absurd (Int.le_refl _) c9)
        exact tr_ret rfl (fun _ => rfl) (K' σ' hG' ho)
      | cons g suf =>
        have hsl : (g :: suf).length = suf.length + 1 := rfl
        have hcl := cntP_le (g.2.1 + 9) (g :: suf)
        have hokg := hk g (by simp)
        have hgi := gnum_in hokg
        have htot : (done ++ g :: suf).length = done.length + 1 + suf.length := by simp; omega
        have hgj : ∀ j, j < (g :: suf).length → σ'.2 525 (0 + (done.length + j)) = gnum ((g :: suf).getD j (0, 0, 0)) ∧ okGp ((g :: suf).getD j (0, 0, 0)) := fun j hj => by
          refine ⟨?_, hk _ (List.mem_append.mpr (Or.inr (gget hj)))⟩
          rw [mgp_get hG' (by omega)]
          congr 1
          rw [List.getD_eq_getElem?_getD, List.getElem?_append_right (by omega), show done.length + j - done.length = j by omega, List.getD_eq_getElem?_getD]
        have hg0 : σ'.2 525 (0 + done.length) = gnum g := (hgj 0 (by omega)).1
        -- behind this group
        have h160 : ∀ (σ2 : Sg) (z : Gp) (zs : List Gp) (v4 v5 v6 : Option mV) (v3 : Int), jn1 (g :: suf) = z :: zs → mgp σ2 (done ++ z :: zs) → only cGp σ σ2 → Tr Ls N 304 160 [some (mP (some 480)), some (mI x), some (mI (done.length : Int)), some (mI v3), v4, v5, v6] [] σ2 post := by
          intro σ2 z zs v4 v5 v6 v3 hj k1 k2
          have hjl := (jn1_len (g :: suf)).1
          have hjk := jn1_ok (l := g :: suf) (fun y hy => hk y (List.mem_append.mpr (Or.inr hy)))
          rw [hj] at hjl hjk
          rw [jnA_cons hj] at K'
          have hzl : (z :: zs).length = zs.length + 1 := rfl
          iterate 2 (refine tr_mv rfl (fun _ => rfl) ?_)
          show Tr Ls N 304 2 [some (mP (some 480)), some (mI x), some (mI ((done.length : Int) + 1)), some (mI v3), v4, v5, v6] [] σ2 post
          rw [show (done.length : Int) + 1 = ((done ++ [z]).length : Int) by simp]
          refine ih (done ++ [z]) zs σ2 _ _ _ _ (by omega) (by simp; omega) (fun y hy => ?_) (fun y hy => ?_) (by simpa using k1) k2 (by simpa using K')
          · have hy2 : y ∈ done ∨ y ∈ z :: zs := by simpa using hy
            exact hy2.elim (fun h => hk y (List.mem_append.mpr (Or.inl h))) (fun h => hjk y h)
          · by_cases c : 4 ≤ cntP (g.2.1 + 9) (g :: suf)
            · rw [jn1_pos c] at hj
              injection hj with _ h4
              rw [← h4] at hy
              exact hz y (List.mem_cons_of_mem _ (List.mem_of_mem_drop hy))
            · rw [jn1_neg c] at hj
              injection hj with _ h4
              rw [← h4] at hy
              exact hz y (List.mem_cons_of_mem _ hy)
        -- the count is known
        have h67 : ∀ c, c = cntP (g.2.1 + 9) (g :: suf) → Tr Ls N 304 67 [some (mP (some 480)), some (mI x), some (mI (done.length : Int)), some (mI g.2.1), some (mI ((done.length + c : Nat) : Int)), v5, v6] [] σ' post := by
          intro c ec
          iterate 4 (refine tr_mv rfl (fun _ => rfl) ?_)
          by_cases c4 : 4 ≤ c
          · have hj := jn1_pos (g := g) (gs := suf) (by omega)
            rw [← ec] at hj
            refine tr_cmp2 rfl (m32_of (by omega)) (m32_of (x := 3) ⟨by decide, by decide⟩) (fun c9 => absurd c9 (by show ¬ _ ≤ (3 : Int); omega)) (fun _ => ?_)
            obtain ⟨hl1, hl2⟩ := hgj (c - 1) (by omega)
            have hli := gnum_in hl2
            generalize ((g :: suf).getD (c - 1) (0, 0, 0)) = LL at *
            repeat (first | refine tr_mgr rfl (by decide) rfl ?_ | refine tr_mgi rfl (by decide) (by decide) rfl ?_ | refine tr_mv rfl (fun _ => rfl) ?_)
            refine tr_man (j := 0 + (done.length + (c - 1))) rfl (by omega) (by omega) rfl (fun _ => rfl) rfl rfl rfl ?_
            rw [hl1]
            iterate 1 (refine tr_mv rfl (fun _ => rfl) ?_)
            refine tr_rem ?_ ?_ rfl ?_; omega; omega
            iterate 1 (refine tr_mv rfl (fun _ => rfl) ?_)
            rw [hli.2.2.2]
            refine tr_msn (j := 0 + done.length) rfl (by omega) (by omega) rfl (fun _ => rfl) rfl rfl rfl ?_
            repeat (first | refine tr_mgr rfl (by decide) rfl ?_ | refine tr_mgi rfl (by decide) (by decide) rfl ?_ | refine tr_mv rfl (fun _ => rfl) ?_)
            rw [setF_ne _ _ (by omega), hG'.1, htot]
            refine tr_mpi rfl (Or.inl rfl) (by decide) rfl ?_
            iterate 4 (refine tr_mv rfl (fun _ => rfl) ?_)
            show Tr Ls N 304 128 [some (mP (some 480)), some (mI x), some (mI (done.length : Int)), some (mI g.2.1), some (mI ((done.length + c : Nat) : Int)), some (mI (((done.length + c : Nat) : Int) - (done.length : Int) - 1)), some (mI ((done.length : Int) + 1))] [] _ post
            rw [show ((done.length + c : Nat) : Int) - (done.length : Int) - 1 = ((c - 1 : Nat) : Int) by omega, show ((done.length + 1 + suf.length : Nat) : Int) - ((c - 1 : Nat) : Int) = ((done.length + 1 + (suf.length - (c - 1)) : Nat) : Int) by omega]
            have shift : ∀ (r j : Nat) (σ2 : Sg), j + r = suf.length - (c - 1) → (∀ q i, σ2.2 q i = if q = 525 ∧ done.length + 1 ≤ i ∧ i < done.length + 1 + j then σ'.2 525 (i + (c - 1)) else if q = 525 ∧ i = done.length then 3000000 + 1000 * g.2.1 + LL.2.2 else if q = 480 ∧ i = 57 then ((done.length + 1 + (suf.length - (c - 1)) : Nat) : Int) else σ'.2 q i) → σ2.1 = σ'.1 → Tr Ls N 304 128 [some (mP (some 480)), some (mI x), some (mI (done.length : Int)), some (mI g.2.1), some (mI ((done.length + c : Nat) : Int)), some (mI ((c - 1 : Nat) : Int)), some (mI ((done.length + 1 + j : Nat) : Int))] [] σ2 post := by
              intro r
              induction r with
              | zero =>
                intro j σ2 ej hk2 hr2
                repeat (first | refine tr_mgr rfl (by decide) rfl ?_ | refine tr_mgi rfl (by decide) (by decide) rfl ?_ | refine tr_mv rfl (fun _ => rfl) ?_)
                rw [hk2 480 57, if_neg (by omega), if_neg (by omega), if_pos ⟨rfl, rfl⟩]
                refine tr_cmp2 rfl (m32_of (by omega)) (m32_of (by omega)) (fun _ => ?_) (fun c9 => absurd (show ((done.length + 1 + (suf.length - (c - 1)) : Nat) : Int) ≤ ((done.length + 1 + j : Nat) : Int) by omega) c9)
                refine h160 σ2 _ _ _ _ _ _ hj ⟨?_, fun i hi => ?_⟩ ⟨hr2.trans ho.1, fun q i hq => ?_⟩
                · rw [hk2, if_neg (by omega), if_neg (by omega), if_pos ⟨rfl, rfl⟩]
                  simp
                  omega
                · have hi2 : i < done.length + 1 + (suf.length - (c - 1)) := by simp at hi; omega
                  rw [hk2, List.getD_eq_getElem?_getD, List.getElem?_map]
                  by_cases e1 : i < done.length
                  · rw [if_neg (by omega), if_neg (by omega), if_neg (by omega), mgp_get hG' (by omega), List.getElem?_append_left (by omega), List.getD_eq_getElem?_getD, List.getElem?_append_left (by omega), List.getElem?_eq_getElem e1]
                    rfl
                  · by_cases e2 : i = done.length
                    · rw [if_neg (by omega), if_pos ⟨rfl, by omega⟩, e2, List.getElem?_append_right (Nat.le_refl _), Nat.sub_self]
                      show 3000000 + 1000 * g.2.1 + LL.2.2 = gnum (3, g.2.1, LL.2.2)
                      rfl
                    · obtain ⟨z, rfl⟩ : ∃ z, i = done.length + 1 + z := ⟨i - done.length - 1, by omega⟩
                      rw [if_pos ⟨rfl, by omega, by omega⟩, List.getElem?_append_right (by omega), show done.length + 1 + z - done.length = z + 1 by omega, List.getElem?_cons_succ, List.getElem?_drop]
                      have h7 := (hgj (z + 1 + (c - 1)) (by omega)).1
                      rw [show 0 + (done.length + 1 + z) + (c - 1) = 0 + (done.length + (z + 1 + (c - 1))) by omega, h7, List.getD_eq_getElem?_getD, show z + 1 + (c - 1) = (c - 1 + z) + 1 by omega, List.getElem?_cons_succ, List.getElem?_eq_getElem (show c - 1 + z < suf.length by omega)]
                      rfl
                · rw [hk2, if_neg (by omega), if_neg (by omega), if_neg (by omega)]
                  exact ho.2 q i hq
              | succ r ihr =>
                intro j σ2 ej hk2 hr2
                repeat (first | refine tr_mgr rfl (by decide) rfl ?_ | refine tr_mgi rfl (by decide) (by decide) rfl ?_ | refine tr_mv rfl (fun _ => rfl) ?_)
                rw [hk2 480 57, if_neg (by omega), if_neg (by omega), if_pos ⟨rfl, rfl⟩]
                refine tr_cmp2 rfl (m32_of (by omega)) (m32_of (by omega)) (fun c9 => absurd c9 (by show ¬ _ ≤ _; omega)) (fun _ => ?_)
                repeat (first | refine tr_mgr rfl (by decide) rfl ?_ | refine tr_mgi rfl (by decide) (by decide) rfl ?_ | refine tr_mv rfl (fun _ => rfl) ?_)
                refine tr_man (j := done.length + 1 + j + (c - 1)) rfl (by omega) (by omega) rfl (fun _ => rfl) rfl rfl rfl ?_
                rw [hk2 525 (done.length + 1 + j + (c - 1)), if_neg (by omega), if_neg (by omega), if_neg (by omega)]
                refine tr_msn (j := done.length + 1 + j) rfl (by omega) (by omega) rfl (fun _ => rfl) rfl rfl rfl ?_
                iterate 2 (refine tr_mv rfl (fun _ => rfl) ?_)
                show Tr Ls N 304 128 [some (mP (some 480)), some (mI x), some (mI (done.length : Int)), some (mI g.2.1), some (mI ((done.length + c : Nat) : Int)), some (mI ((c - 1 : Nat) : Int)), some (mI (((done.length + 1 + j : Nat) : Int) + 1))] [] _ post
                rw [show ((done.length + 1 + j : Nat) : Int) + 1 = ((done.length + 1 + (j + 1) : Nat) : Int) by omega]
                refine ihr (j + 1) _ (by omega) (fun q i => ?_) hr2
                rw [setF_get]
                by_cases f1 : q = 525 ∧ i = done.length + 1 + j
                · rw [if_pos f1, if_pos ⟨f1.1, by omega, by omega⟩, f1.2]
                · rw [if_neg f1, hk2]
                  by_cases f2 : q = 525 ∧ done.length + 1 ≤ i ∧ i < done.length + 1 + j
                  · rw [if_pos f2, if_pos ⟨f2.1, f2.2.1, by omega⟩]
                  · rw [if_neg f2, if_neg (show ¬ (q = 525 ∧ done.length + 1 ≤ i ∧ i < done.length + 1 + (j + 1)) from fun g => f2 ⟨g.1, g.2.1, by omega⟩)]
            refine shift (suf.length - (c - 1)) 0 _ (by omega) (fun q i => ?_) rfl
            rw [setF_get]
            by_cases f1 : q = 480 ∧ i = 57
            · rw [if_pos f1, if_neg (by omega), if_neg (by omega), if_pos f1]
            · rw [if_neg f1, setF_get]
              by_cases f2 : q = 525 ∧ i = done.length
              · rw [if_pos ⟨f2.1, by omega⟩, if_neg (by omega), if_pos f2]
                rfl
              · rw [if_neg (by omega), if_neg (by omega), if_neg f2, if_neg f1]
          · refine tr_cmp2 rfl (m32_of (by omega)) (m32_of (x := 3) ⟨by decide, by decide⟩) (fun _ => ?_) (fun c9 => absurd (show ((done.length + c : Nat) : Int) - (done.length : Int) ≤ 3 by omega) c9)
            exact h160 σ' g suf _ _ _ _ (jn1_neg (by omega)) hG' ho
        have cnt : ∀ (rest dn : List Gp), g :: suf = dn ++ rest → 1 ≤ dn.length → cntP (g.2.1 + 9) (g :: suf) = dn.length + cntP (g.2.1 + 9) rest → Tr Ls N 304 30 [some (mP (some 480)), some (mI x), some (mI (done.length : Int)), some (mI g.2.1), some (mI ((done.length + dn.length : Nat) : Int)), v5, v6] [] σ' post := by
          intro rest
          induction rest with
          | nil =>
            intro dn e h1' hc
            have hlen := congrArg List.length e
            simp only [List.length_append, List.length_nil, Nat.add_zero] at hlen
            repeat (first | refine tr_mgr rfl (by decide) rfl ?_ | refine tr_mgi rfl (by decide) (by decide) rfl ?_ | refine tr_mv rfl (fun _ => rfl) ?_)
            rw [hG'.1, htot]
            refine tr_cmp2 rfl (m32_of (by omega)) (m32_of (by omega)) (fun _ => ?_) (fun c9 => absurd (show ((done.length + 1 + suf.length : Nat) : Int) ≤ ((done.length + dn.length : Nat) : Int) by omega) c9)
            exact h67 _ (by rw [hc]; rfl)
          | cons y rest ihc =>
            intro dn e h1' hc
            have hlen := congrArg List.length e
            have hlen2 : suf.length + 1 = dn.length + 1 + rest.length := by
              rw [hsl] at hlen
              simp at hlen
              omega
            obtain ⟨hy1, hy2⟩ := hgj dn.length (by omega)
            have hyy : (g :: suf).getD dn.length (0, 0, 0) = y := by
              rw [e, List.getD_eq_getElem?_getD]
              simp
            have hy0 : y.1 = 0 := hz y (by rw [e]; simp)
            rw [hyy] at hy1 hy2
            have hyi := gnum_in hy2
            rw [show cntP (g.2.1 + 9) (y :: rest) = if y.1 = 0 ∧ y.2.1 ≤ g.2.1 + 9 then cntP (g.2.1 + 9) rest + 1 else 0 from rfl] at hc
            repeat (first | refine tr_mgr rfl (by decide) rfl ?_ | refine tr_mgi rfl (by decide) (by decide) rfl ?_ | refine tr_mv rfl (fun _ => rfl) ?_)
            rw [hG'.1, htot]
            refine tr_cmp2 rfl (m32_of (by omega)) (m32_of (by omega)) (fun c9 => absurd c9 (by show ¬ _ ≤ _; omega)) (fun _ => ?_)
            repeat (first | refine tr_mgr rfl (by decide) rfl ?_ | refine tr_mgi rfl (by decide) (by decide) rfl ?_ | refine tr_mv rfl (fun _ => rfl) ?_)
            refine tr_man (j := 0 + (done.length + dn.length)) rfl (by omega) (by omega) rfl (fun _ => rfl) rfl rfl rfl ?_
            rw [hy1]
            iterate 1 (refine tr_mv rfl (fun _ => rfl) ?_)
            refine tr_div ?_ ?_ rfl ?_; omega; omega
            iterate 1 (refine tr_mv rfl (fun _ => rfl) ?_)
            refine tr_rem ?_ ?_ rfl ?_; omega; omega
            rw [hyi.2.2.1]
            iterate 3 (refine tr_mv rfl (fun _ => rfl) ?_)
            refine tr_cmp2 rfl (m32_of (by omega)) (m32_of (by omega)) (fun c2 => ?_) (fun c2 => ?_)
            · rw [if_neg (fun g => by omega)] at hc
              exact h67 _ (by omega)
            · rw [if_pos ⟨hy0, by omega⟩] at hc
              iterate 2 (refine tr_mv rfl (fun _ => rfl) ?_)
              show Tr Ls N 304 30 [some (mP (some 480)), some (mI x), some (mI (done.length : Int)), some (mI g.2.1), some (mI (((done.length + dn.length : Nat) : Int) + 1)), v5, v6] [] σ' post
              rw [show ((done.length + dn.length : Nat) : Int) + 1 = ((done.length + (dn ++ [y]).length : Nat) : Int) by simp; omega]
              exact ihc (dn ++ [y]) (by rw [e]; simp) (by simp) (by rw [hc]; simp; omega)
        repeat (first | refine tr_mgr rfl (by decide) rfl ?_ | refine tr_mgi rfl (by decide) (by decide) rfl ?_ | refine tr_mv rfl (fun _ => rfl) ?_)
        rw [hG'.1, htot]
        refine tr_cmp2 rfl (m32_of (by omega)) (m32_of (by omega)) (fun c9 => absurd c9 (by show ¬ _ ≤ _; omega)) (fun _ => ?_)
        repeat (first | refine tr_mgr rfl (by decide) rfl ?_ | refine tr_mgi rfl (by decide) (by decide) rfl ?_ | refine tr_mv rfl (fun _ => rfl) ?_)
        refine tr_man (j := 0 + done.length) rfl (by omega) (by omega) rfl (fun _ => rfl) rfl rfl rfl ?_
        rw [hg0]
        iterate 1 (refine tr_mv rfl (fun _ => rfl) ?_)
        refine tr_div ?_ ?_ rfl ?_; omega; omega
        iterate 1 (refine tr_mv rfl (fun _ => rfl) ?_)
        refine tr_rem ?_ ?_ rfl ?_; omega; omega
        rw [hgi.2.2.1]
        iterate 5 (refine tr_mv rfl (fun _ => rfl) ?_)
        show Tr Ls N 304 30 [some (mP (some 480)), some (mI x), some (mI (done.length : Int)), some (mI g.2.1), some (mI ((done.length : Int) + 1)), v5, v6] [] σ' post
        rw [show (done.length : Int) + 1 = ((done.length + [g].length : Nat) : Int) by simp]
        refine cnt suf [g] rfl (by simp) ?_
        have hg0' := hz g List.mem_cons_self
        show (if g.1 = 0 ∧ g.2.1 ≤ g.2.1 + 9 then _ else 0) = _
        rw [if_pos ⟨hg0', by omega⟩]
        simp
        omega
  subst hx
  iterate 2 (refine tr_mv rfl (fun _ => rfl) ?_)
  exact loop B.length pre B σ _ _ _ _ (Nat.le_refl _) hl hok hB hG only.rf K
end MGRP
