/-! Locators: one more. -/
section ENT2
variable {Ls N k pc n n' nn b c t a q kd w d p X T : Nat} {L0 : mLs} {st r as : List mV} {h h' : mH} {σ σ' σ'' : Sg} {post : tP} {x y z x' y' i i' s v m u lv : Int} {xs ys ss L M P : List Int} {e : mE} {C : Nat → Nat → Prop} {R : Nat → Prop} {tx : List (List Int)} {en : List EnT}
theorem rk_in3 {y : Int} (h : 0 ≤ y ∧ y < 3) : 0 ≤ rk y ∧ rk y ≤ 2 := by
  have e : y = 0 ∨ y = 1 ∨ y = 2 := by omega
  rcases e with rfl | rfl | rfl <;> decide
theorem s_64 (ht : isE t) (hx : 1 ≤ x ∧ x < 1000) (hy : 0 ≤ y ∧ y < 3) (K : post (.inl (some (mI (b2 (1000 * rk y + x ∈ σ.1 (t + 1)))))) σ) : Tr Ls N 64 0 [some (mP (some t)), some (mI x), some (mI y)] [] σ post := by
  have hr := rk_in3 hy
  iterate 1 (refine tr_mv rfl (fun _ => rfl) ?_)
  refine tr_gr rfl (E_O ht) (by decide) (E_p5 ht) ?_
  iterate 2 (refine tr_mv rfl (fun _ => rfl) ?_)
  refine tr_stat rfl rfl rfl (s_61 (by omega) ?_)
  refine tr_vc (q := t + 1) rfl ⟨(E_r5 ht).1, (E_r5 ht).2.1⟩ rfl rfl rfl (s_104 (E_r5 ht) (by omega) ?_)
  by_cases g : 1000 * rk y + x ∈ σ.1 (t + 1)
  · rw [b2, if_pos g] at K ⊢
    exact tr_reti rfl (Or.inr (Or.inr rfl)) K
  · rw [b2, if_neg g] at K ⊢
    exact tr_reti rfl (Or.inr (Or.inl rfl)) K
theorem s_65 (ht : isE t) (hx : 1 ≤ x ∧ x < 1000) (hy : 0 ≤ y ∧ y < 3) (hl : (σ.1 (t + 1)).length < 10) (hs : ∀ z ∈ σ.1 (t + 1), in32 z)
    (K : ∀ pre suf, σ.1 (t + 1) = pre ++ suf → (∀ z ∈ suf, 1000 * rk y + x < z) → (∀ p l, pre = p ++ [l] → l ≤ 1000 * rk y + x) → post (.inl none) (setR σ (t + 1) (pre ++ (1000 * rk y + x) :: suf))) :
    Tr Ls N 65 0 [some (mP (some t)), some (mI x), some (mI y), none, none] [] σ post := by
  have hr := rk_in3 hy
  iterate 2 (refine tr_mv rfl (fun _ => rfl) ?_)
  refine tr_stat rfl rfl rfl (s_61 (by omega) ?_)
  obtain ⟨cc, hc⟩ : ∃ cc, cc = 1000 * rk y + x := ⟨_, rfl⟩
  rw [← hc] at K ⊢
  have fin : ∀ pre suf, σ.1 (t + 1) = pre ++ suf → (∀ z ∈ suf, cc < z) → (∀ p l, pre = p ++ [l] → l ≤ cc) → Tr Ls N 65 41 [some (mP (some t)), some (mI x), some (mI y), some (mI cc), some (mI (pre.length : Int))] [] σ post := by
    intro pre suf e h1 h2
    have hln : (pre ++ suf).length < 10 := by rw [← e]; exact hl
    have hln2 := hln
    rw [List.length_append] at hln2
    iterate 1 (refine tr_mv rfl (fun _ => rfl) ?_)
    refine tr_gr rfl (E_O ht) (by decide) (E_p5 ht) ?_
    iterate 2 (refine tr_mv rfl (fun _ => rfl) ?_)
    refine tr_insert (E_r5 ht) (by omega) rfl rfl ?_
    rw [m32_of (show in32 (pre.length : Int) by omega), rins, e, if_pos ⟨by omega, by rw [List.length_append]; omega, hln⟩, Int.toNat_natCast, insIdx_mid]
    exact tr_ret rfl (fun _ => rfl) (K pre suf e h1 h2)
  have loop : ∀ (r suf : List Int), σ.1 (t + 1) = r.reverse ++ suf → (∀ z ∈ suf, cc < z) → Tr Ls N 65 15 [some (mP (some t)), some (mI x), some (mI y), some (mI cc), some (mI (r.length : Int))] [] σ post := by
    intro r
    induction r with
    | nil =>
      intro suf e h1
      show Tr Ls N 65 15 [some (mP (some t)), some (mI x), some (mI y), some (mI cc), some (mI 0)] [] σ post
      iterate 2 (refine tr_mv rfl (fun _ => rfl) ?_)
      exact fin [] suf e h1 (fun p l g => by cases p <;> exact absurd g (by simp))
    | cons l r ih =>
      intro suf e h1
      have e2 : σ.1 (t + 1) = r.reverse ++ l :: suf := by rw [e]; simp
      have hlen := congrArg List.length e2
      rw [List.length_append, List.length_reverse, List.length_cons] at hlen
      have hli := hs l (by rw [e2]; simp)
      rw [show ((l :: r).length : Int) = (r.length : Int) + 1 by simp]
      iterate 1 (refine tr_mv rfl (fun _ => rfl) ?_)
      refine tr_if2 rfl (m32_of (by omega)) (fun c1 => ?_) (fun c1 => ?_)
      · exact absurd c1 (by show ¬ _ ≤ (0 : Int); omega)
      · iterate 1 (refine tr_mv rfl (fun _ => rfl) ?_)
        refine tr_gr rfl (E_O ht) (by decide) (E_p5 ht) ?_
        iterate 3 (refine tr_mv rfl (fun _ => rfl) ?_)
        rw [show (r.length : Int) + 1 - 1 = (r.length : Int) by omega]
        refine tr_at2 (E_r5 ht) (m32_of (by omega)) rfl rfl ?_
        rw [show rget (σ.1 (t + 1)) (r.length : Int) = l by have g := rget_app e2; rw [List.length_reverse] at g; exact g]
        iterate 1 (refine tr_mv rfl (fun _ => rfl) ?_)
        refine tr_cmp2 rfl (m32_of (by omega)) (m32_of (by omega)) (fun c2 => ?_) (fun c2 => ?_)
        · have := fin (l :: r).reverse suf e h1 (fun p l' g => by
            have g2 : r.reverse ++ [l] = p ++ [l'] := by simpa using g
            have g3 := List.append_inj_right' g2 rfl
            injection g3 with g4
            rw [← g4]
            exact c2)
          rw [List.length_reverse] at this
          exact this
        · iterate 2 (refine tr_mv rfl (fun _ => rfl) ?_)
          show Tr Ls N 65 15 [some (mP (some t)), some (mI x), some (mI y), some (mI cc), some (mI ((r.length : Int) + 1 + -1))] [] σ post
          rw [show (r.length : Int) + 1 + -1 = (r.length : Int) by omega]
          refine ih (l :: suf) e2 (fun z hz => ?_)
          rcases List.mem_cons.mp hz with g | g
          · rw [g]
            exact Int.not_le.mp c2
          · exact h1 z g
  iterate 2 (refine tr_mv rfl (fun _ => rfl) ?_)
  refine tr_gr rfl (E_O ht) (by decide) (E_p5 ht) ?_
  refine tr_size (E_r5 ht) rfl rfl ?_
  iterate 1 (refine tr_mv rfl (fun _ => rfl) ?_)
  have := loop (σ.1 (t + 1)).reverse [] (by simp) (fun z hz => absurd hz List.not_mem_nil)
  rw [List.length_reverse] at this
  exact this
theorem s_58 (ht : isE t) (K : post (.inl none) (setF (setF σ t 3 x) t 4 y)) : Tr Ls N 58 0 [some (mP (some t)), some (mI x), some (mI y)] [] σ post := by
  iterate 2 (refine tr_mv rfl (fun _ => rfl) ?_)
  refine tr_pi rfl (Or.inl rfl) (E_O ht) (by decide) (E_c ht) (E_n ht).2.2.2.1 ?_
  iterate 2 (refine tr_mv rfl (fun _ => rfl) ?_)
  refine tr_pi rfl (Or.inl rfl) (E_O ht) (by decide) (E_c ht) (E_n ht).2.2.2.2.1 ?_
  exact tr_ret rfl (fun _ => rfl) K
theorem s_49 (ht : isE t) (K : post (.inl none) (setF (setF (setF σ t 0 x) t 1 y) t 2 z)) : Tr Ls N 49 0 [some (mP (some t)), some (mI x), some (mI y), some (mI z)] [] σ post := by
  iterate 2 (refine tr_mv rfl (fun _ => rfl) ?_)
  refine tr_pi rfl (Or.inl rfl) (E_O ht) (by decide) (E_c ht) (E_n ht).1 ?_
  iterate 2 (refine tr_mv rfl (fun _ => rfl) ?_)
  refine tr_pi rfl (Or.inl rfl) (E_O ht) (by decide) (E_c ht) (E_n ht).2.1 ?_
  iterate 2 (refine tr_mv rfl (fun _ => rfl) ?_)
  refine tr_pi rfl (Or.inl rfl) (E_O ht) (by decide) (E_c ht) (E_n ht).2.2.1 ?_
  exact tr_ret rfl (fun _ => rfl) K
/-! the model's -/
theorem s_285 (ha : a < 24) (hc : σ.2 519 a = (M.length : Int)) (hm : mseg σ 518 (10 * a) M) (hl : M.length ≤ 10) (hok : ∀ m ∈ M, okLc m) (hx : in32 x) (K : ∀ v, (-1 ≤ v ∧ v < 10) → (v = -1 ↔ x ∉ M) → post (.inl (some (mI v))) σ) : Tr Ls N 285 0 [some (mP (some 480)), some (mI (a : Int)), some (mI x), none, none] [] σ post := by
  have loop : ∀ (rest done : List Int) (v : Int), M = done ++ rest → (-1 ≤ v ∧ v < 10) → (v = -1 ↔ x ∉ done) → Tr Ls N 285 5 [some (mP (some 480)), some (mI (a : Int)), some (mI x), some (mI v), some (mI (done.length : Int))] [] σ post := by
    intro rest
    induction rest with
    | nil =>
      intro done v e hv hd
      rw [List.append_nil] at e
      have e9 := congrArg List.length e
      repeat (first | refine tr_mgr rfl (by decide) rfl ?_ | refine tr_mgi rfl (by decide) (by decide) rfl ?_ | refine tr_mv rfl (fun _ => rfl) ?_)
      refine tr_man (j := a) rfl (by omega) (by omega) rfl (fun _ => rfl) rfl rfl rfl ?_
      rw [hc]
      refine tr_cmp2 rfl (m32_of (by omega)) (m32_of (by omega)) (fun _ => ?_) (fun c1 => absurd (show (M.length : Int) ≤ (done.length : Int) by omega) c1)
      iterate 1 (refine tr_mv rfl (fun _ => rfl) ?_)
      exact tr_ri rfl rfl (K v hv (by rw [e]; exact hd))
    | cons z rest ih =>
      intro done v e hv hd
      have hlen : M.length = done.length + 1 + rest.length := by rw [e]; simp; omega
      have hz := hok z (by rw [e]; simp)
      have hgz : σ.2 518 (10 * a + done.length) = z := by
        rw [hm.get (by omega), e, List.getD_eq_getElem?_getD]
        simp
      have h37 : ∀ w, (-1 ≤ w ∧ w < 10) → (w = -1 ↔ x ∉ done ++ [z]) → Tr Ls N 285 38 [some (mP (some 480)), some (mI (a : Int)), some (mI x), some (mI v), some (mI (done.length : Int))] [mI w] σ post := by
        intro w hw hwd
        iterate 3 (refine tr_mv rfl (fun _ => rfl) ?_)
        show Tr Ls N 285 5 [some (mP (some 480)), some (mI (a : Int)), some (mI x), some (mI w), some (mI ((done.length : Int) + 1))] [] σ post
        rw [show (done.length : Int) + 1 = ((done ++ [z]).length : Int) by simp]
        exact ih (done ++ [z]) w (by rw [e]; simp) hw hwd
      repeat (first | refine tr_mgr rfl (by decide) rfl ?_ | refine tr_mgi rfl (by decide) (by decide) rfl ?_ | refine tr_mv rfl (fun _ => rfl) ?_)
      refine tr_man (j := a) rfl (by omega) (by omega) rfl (fun _ => rfl) rfl rfl rfl ?_
      rw [hc]
      refine tr_cmp2 rfl (m32_of (by omega)) (m32_of (by omega)) (fun c9 => absurd c9 (by show ¬ _ ≤ _; omega)) (fun _ => ?_)
      repeat (first | refine tr_mgr rfl (by decide) rfl ?_ | refine tr_mgi rfl (by decide) (by decide) rfl ?_ | refine tr_mv rfl (fun _ => rfl) ?_)
      refine tr_man (j := 10 * a + done.length) rfl (by omega) (by omega) rfl (fun _ => rfl) rfl rfl rfl ?_
      rw [hgz]
      iterate 1 (refine tr_mv rfl (fun _ => rfl) ?_)
      refine tr_cmp2 rfl (m32_of (by omega)) (m32_of (by omega)) (fun c1 => ?_) (fun c1 => ?_)
      · have c2 : ¬ z = x := c1
        iterate 1 (refine tr_mv rfl (fun _ => rfl) ?_)
        exact h37 v hv (by rw [hd, List.mem_append, List.mem_singleton]; exact ⟨fun g k => k.elim g (fun k => c2 k.symm), fun g k => g (Or.inl k)⟩)
      · have c2 : z = x := Decidable.of_not_not c1
        iterate 2 (refine tr_mv rfl (fun _ => rfl) ?_)
        exact h37 _ (by omega) (by rw [c2]; simp)
  iterate 4 (refine tr_mv rfl (fun _ => rfl) ?_)
  exact loop M [] (-1) rfl (by decide) (by simp)
theorem s_286 (hE : en.length ≤ 24) (cE : mEn σ en) (hok : ∀ e ∈ en, okLoc (enL e) (enM e)) (hi : in32 i) (hx : in32 x) (hy : in32 y)
    (K1 : ¬ (0 ≤ i ∧ i < (en.length : Int)) → post (.inl (some (mI 0))) (setF σ 480 0 1))
    (K2 : (0 ≤ i ∧ i < (en.length : Int)) → ¬ ((1 ≤ x ∧ x ≤ 999) ∧ 0 ≤ y ∧ y ≤ 2) → post (.inl (some (mI 0))) (setF σ 480 0 2))
    (K3 : ∀ a : Nat, i = (a : Int) → a < en.length → ((1 ≤ x ∧ x ≤ 999) ∧ 0 ≤ y ∧ y ≤ 2) → 1000 * y + x ∉ enM (en.getD a enD) → (enM (en.getD a enD)).length = 10 → post (.inl (some (mI 0))) (setF σ 480 0 3))
    (K4 : ∀ a : Nat, i = (a : Int) → a < en.length → ((1 ≤ x ∧ x ≤ 999) ∧ 0 ≤ y ∧ y ≤ 2) → 1000 * y + x ∈ enM (en.getD a enD) → post (.inl (some (mI 0))) (setF σ 480 0 0))
    (K5 : ∀ a : Nat, i = (a : Int) → a < en.length → ((1 ≤ x ∧ x ≤ 999) ∧ 0 ≤ y ∧ y ≤ 2) → 1000 * y + x ∉ enM (en.getD a enD) → (enM (en.getD a enD)).length < 10 → post (.inl (some (mI 1))) (setF (setF (setF σ 480 0 0) 518 (10 * a + (enM (en.getD a enD)).length) (1000 * y + x)) 519 a (((enM (en.getD a enD)).length : Int) + 1))) :
    Tr Ls N 286 0 [some (mP (some 480)), some (mI i), some (mI x), some (mI y), none, none, none] [] σ post := by
  have range : ∀ (w : Int), (((1 ≤ x ∧ x ≤ 999) ∧ 0 ≤ y ∧ y ≤ 2) → Tr Ls N 286 32 [some (mP (some 480)), some (mI i), some (mI x), some (mI y), some (mI w), none, none] [mI 1] σ post) → (¬ ((1 ≤ x ∧ x ≤ 999) ∧ 0 ≤ y ∧ y ≤ 2) → Tr Ls N 286 32 [some (mP (some 480)), some (mI i), some (mI x), some (mI y), some (mI w), none, none] [mI 0] σ post) → Tr Ls N 286 7 [some (mP (some 480)), some (mI i), some (mI x), some (mI y), some (mI w), none, none] [] σ post := by
    intro w k1 k0
    iterate 3 (refine tr_mv rfl (fun _ => rfl) ?_)
    refine tr_stat rfl rfl rfl (s_211 hx (by decide) (by decide) ?_)
    first | refine tr_ib rfl (fun c1 => ?_) (fun c1 => ?_) | refine tr_ibn rfl (fun c1 => ?_) (fun c1 => ?_)
    · iterate 1 (refine tr_mv rfl (fun _ => rfl) ?_)
      exact k0 (fun g => c1 g.1)
    · iterate 3 (refine tr_mv rfl (fun _ => rfl) ?_)
      refine tr_stat rfl rfl rfl (s_211 hy (by decide) (by decide) ?_)
      first | refine tr_ib rfl (fun c2 => ?_) (fun c2 => ?_) | refine tr_ibn rfl (fun c2 => ?_) (fun c2 => ?_)
      · iterate 1 (refine tr_mv rfl (fun _ => rfl) ?_)
        exact k0 (fun g => c2 g.2)
      · iterate 2 (refine tr_mv rfl (fun _ => rfl) ?_)
        exact k1 ⟨c1, c2⟩
  iterate 2 (refine tr_mv rfl (fun _ => rfl) ?_)
  refine tr_vc (q := 480) rfl isO_480 rfl rfl rfl (s_282 hi cE.1 (by omega) ?_)
  by_cases hA : 0 ≤ i ∧ i < (en.length : Int)
  · rw [b2, if_pos hA]
    iterate 1 (refine tr_mv rfl (fun _ => rfl) ?_)
    refine range 1 (fun hB => ?_) (fun hB => ?_)
    · obtain ⟨a, rfl⟩ : ∃ a : Nat, i = (a : Int) := ⟨i.toNat, by omega⟩
      have ha : a < en.length := by omega
      have hk := hok _ (en_mem ha)
      obtain ⟨_, _, _, hc, hm⟩ := cE.2.2 a (by omega)
      have hl := hk.len
      have hl10 := hk.2.2.2.2.1
      have hoM := hk.2.2.1
      have K3' := K3 a rfl ha hB
      have K4' := K4 a rfl ha hB
      have K5' := K5 a rfl ha hB
      clear K1 K2 K3 K4 K5
      generalize hMM : enM (en.getD a enD) = M at *
      repeat (refine tr_mv rfl (fun _ => rfl) ?_)
      refine tr_vc (q := 480) rfl isO_480 rfl rfl rfl (s_285 (by omega) hc hm (by omega) hoM (by omega) (fun v hv hd => ?_))
      iterate 1 (refine tr_mv rfl (fun _ => rfl) ?_)
      refine tr_cmp2 rfl (m32_of (by omega)) (m32_of (by omega)) (fun c1 => ?_) (fun c1 => ?_)
      · have c2 : 1000 * y + x ∈ M := Decidable.of_not_not (fun g => c1 (hd.mpr g))
        repeat (refine tr_mv rfl (fun _ => rfl) ?_)
        refine tr_vc (q := 480) rfl isO_480 rfl rfl rfl (s_210 (by decide) ?_)
        rw [b2, if_pos rfl]
        repeat (refine tr_mv rfl (fun _ => rfl) ?_)
        exact tr_reti rfl (Or.inr (Or.inl rfl)) (K4' c2)
      · have c2 : 1000 * y + x ∉ M := hd.mp (Decidable.of_not_not c1)
        repeat (first | refine tr_mgr rfl (by decide) rfl ?_ | refine tr_mgi rfl (by decide) (by decide) rfl ?_ | refine tr_mv rfl (fun _ => rfl) ?_)
        refine tr_man (j := a) rfl (by omega) (by omega) rfl (fun _ => rfl) rfl rfl rfl ?_
        rw [hc]
        iterate 1 (refine tr_mv rfl (fun _ => rfl) ?_)
        refine tr_cmp2 rfl (m32_of (by omega)) (m32_of (by omega)) (fun c3 => ?_) (fun c3 => ?_)
        · have c4 : ¬ (M.length : Int) = 10 := c3
          repeat (refine tr_mv rfl (fun _ => rfl) ?_)
          refine tr_vc (q := 480) rfl isO_480 rfl rfl rfl (s_210 (by decide) ?_)
          rw [b2, if_pos rfl]
          repeat (first | refine tr_mgr rfl (by decide) rfl ?_ | refine tr_mgi rfl (by decide) (by decide) rfl ?_ | refine tr_mv rfl (fun _ => rfl) ?_)
          refine tr_man (j := a) rfl (by omega) (by omega) rfl (fun _ => rfl) rfl rfl rfl ?_
          rw [setF_ne _ _ (by omega), hc]
          iterate 1 (refine tr_mv rfl (fun _ => rfl) ?_)
          repeat (first | refine tr_mgr rfl (by decide) rfl ?_ | refine tr_mgi rfl (by decide) (by decide) rfl ?_ | refine tr_mv rfl (fun _ => rfl) ?_)
          refine tr_msn (j := 10 * a + M.length) rfl (by omega) (by omega) rfl (fun _ => rfl) rfl rfl rfl ?_
          repeat (first | refine tr_mgr rfl (by decide) rfl ?_ | refine tr_mgi rfl (by decide) (by decide) rfl ?_ | refine tr_mv rfl (fun _ => rfl) ?_)
          refine tr_man (j := a) rfl (by omega) (by omega) rfl (fun _ => rfl) rfl rfl rfl ?_
          rw [setF_ne _ _ (by omega), setF_ne _ _ (by omega), hc]
          iterate 2 (refine tr_mv rfl (fun _ => rfl) ?_)
          refine tr_msn (j := a) rfl (by omega) (by omega) rfl (fun _ => rfl) rfl rfl rfl ?_
          iterate 1 (refine tr_mv rfl (fun _ => rfl) ?_)
          exact tr_reti rfl (Or.inr (Or.inr rfl)) (K5' c2 (by omega))
        · have c4 : (M.length : Int) = 10 := Decidable.of_not_not c3
          repeat (refine tr_mv rfl (fun _ => rfl) ?_)
          refine tr_vc (q := 480) rfl isO_480 rfl rfl rfl (s_210 (by decide) ?_)
          rw [b2, if_neg (by decide)]
          repeat (refine tr_mv rfl (fun _ => rfl) ?_)
          exact tr_reti rfl (Or.inr (Or.inl rfl)) (K3' c2 (by omega))
    · repeat (refine tr_mv rfl (fun _ => rfl) ?_)
      refine tr_vc (q := 480) rfl isO_480 rfl rfl rfl (s_210 (by decide) ?_)
      rw [b2, if_neg (by decide)]
      repeat (refine tr_mv rfl (fun _ => rfl) ?_)
      exact tr_reti rfl (Or.inr (Or.inl rfl)) (K2 hA hB)
  · rw [b2, if_neg hA]
    iterate 1 (refine tr_mv rfl (fun _ => rfl) ?_)
    refine range 0 (fun hB => ?_) (fun hB => ?_) <;>
    · repeat (refine tr_mv rfl (fun _ => rfl) ?_)
      refine tr_vc (q := 480) rfl isO_480 rfl rfl rfl (s_210 (by decide) ?_)
      rw [b2, if_neg (by decide)]
      repeat (refine tr_mv rfl (fun _ => rfl) ?_)
      exact tr_reti rfl (Or.inr (Or.inl rfl)) (K1 hA)
end ENT2
