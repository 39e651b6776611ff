/-! A new edition: all entries' locators move. -/
def mvE (A B : List Int) (e : EnT) : EnT := (enT e, enP e, enS e, enK e, enA e, enX e, enO e, mvL A B (enL e), mvL A B (enM e))
def mvT (A B : List Int) (en : List EnT) : Nat := (en.map (fun e => mvD A B (enM e))).sum
theorem mid_get {P S : List EnT} {u w : EnT} {i : Nat} (h : i ≠ P.length) : (P ++ u :: S).getD i enD = (P ++ w :: S).getD i enD := by
  rw [List.getD_eq_getElem?_getD, List.getD_eq_getElem?_getD]
  by_cases c : i < P.length
  · rw [List.getElem?_append_left c, List.getElem?_append_left c]
  · obtain ⟨j, rfl⟩ : ∃ j, i = P.length + 1 + j := ⟨i - P.length - 1, by omega⟩
    rw [List.getElem?_append_right (by omega), List.getElem?_append_right (by omega), show P.length + 1 + j - P.length = j + 1 by omega, List.getElem?_cons_succ, List.getElem?_cons_succ]
theorem mid_at {P S : List EnT} {u : EnT} : (P ++ u :: S).getD P.length enD = u := by
  rw [List.getD_eq_getElem?_getD]
  simp
section EDIT
variable {Ls N k pc n n' nn b c t a q kd w d p X T : Nat} {L0 : mLs} {st r as : List mV} {h h' : mH} {σ σ' σ'' : Sg} {post : tP} {x y z x' y' i i' s v m u lv : Int} {xs ys ss L M A B : List Int} {e : mE} {C : Nat → Nat → Prop} {R : Nat → Prop} {tx : List (List Int)} {en : List EnT}
theorem mEn.step {P S : List EnT} {u w : EnT} (h : mEn σ (P ++ u :: S)) (hl : (P ++ u :: S).length ≤ 24) (ho : only (cLo P.length) σ σ') (hf : enT w = enT u ∧ enP w = enP u ∧ enS w = enS u ∧ enK w = enK u ∧ enA w = enA u ∧ enX w = enX u ∧ enO w = enO u) (h1 : σ'.2 519 P.length = ((enM w).length : Int)) (h2 : mseg σ' 518 (10 * P.length) (enM w)) (hm : ∀ e ∈ P ++ u :: S, (enM e).length ≤ 10) : mEn σ' (P ++ w :: S) := by
  obtain ⟨f1, f2, f3, f4, f5, f6, f7⟩ := hf
  have hlen : (P ++ w :: S).length = (P ++ u :: S).length := by simp
  refine ⟨?_, fun i hi => ?_, fun i hi => ?_⟩
  · rw [hlen, ho.2 _ _ (by omega)]
    exact h.1
  · rw [hlen] at hi
    rw [ho.2 _ _ (by omega), ho.2 _ _ (by omega), ho.2 _ _ (by omega), ho.2 _ _ (by omega)]
    have k := h.2.1 i hi
    by_cases g : i = P.length
    · subst g
      rw [mid_at] at k ⊢
      rw [f1, f2, f3, f6]
      exact k
    · rw [mid_get (u := w) (w := u) g]
      exact k
  · rw [ho.2 516 _ (by omega), ho.2 517 _ (by omega), ho.2 521 _ (by omega)]
    obtain ⟨k1, k2, k3, k4, k5⟩ := h.2.2 i hi
    by_cases g : i = P.length
    · subst g
      rw [mid_at] at k1 k2 k3 ⊢
      rw [f4, f5, f7]
      exact ⟨k1, k2, k3, h1, h2⟩
    · rw [mid_get (u := w) (w := u) g]
      refine ⟨k1, k2, k3, (ho.2 _ _ (by omega)).trans k4, k5.only ho (fun j j1 j2 => ?_)⟩
      have hj : (enM ((P ++ u :: S).getD i enD)).length ≤ 10 := by
        by_cases hi2 : i < (P ++ u :: S).length
        · exact hm _ (en_mem hi2)
        · rw [List.getD_eq_getElem?_getD, List.getElem?_eq_none (by omega)]
          decide
      omega
theorem s_322 (hE : en.length ≤ 24) (cE : mEn σ en) (hok : ∀ e ∈ en, okLoc (enL e) (enM e)) (hcp : σ.2 480 67 = (A.length : Int)) (hA : mseg σ 531 0 A) (hB : mseg σ 532 0 B) (hp : okPins A B)
    (K1 : A.length < 2 → post (.inl (some (mI 0))) (setF σ 480 0 1))
    (K2 : ∀ σ', 2 ≤ A.length → mEn σ' (en.map (mvE A B)) → σ'.2 480 67 = 0 → σ'.2 480 0 = 0 → only (fun q i => q = 518 ∨ q = 519 ∨ (q = 480 ∧ (i = 0 ∨ i = 67))) σ σ' → post (.inl (some (mI (mvT A B en)))) σ') :
    Tr Ls N 322 0 [some (mP (some 480)), none, none] [] σ post := by
  have hl6 := hp.2.1
  have tb : ∀ l : List EnT, (∀ e ∈ l, okLoc (enL e) (enM e)) → mvT A B l ≤ 10 * l.length := by
    intro l
    induction l with
    | nil => intro _; exact Nat.le_refl _
    | cons e l ih =>
      intro hl
      have h1 := ih (fun e he => hl e (List.mem_cons_of_mem _ he))
      have h2 := hl e List.mem_cons_self
      have h3 := h2.len
      have h4 := h2.2.2.2.2.1
      have h5 := mvD_le (A := A) (B := B) (l := enM e)
      have h6 : mvT A B (e :: l) = mvD A B (enM e) + mvT A B l := by unfold mvT; simp
      simp only [List.length_cons]
      omega
  have loop : ∀ (rest done : List EnT) (σ' : Sg), en = done ++ rest → mEn σ' (done.map (mvE A B) ++ rest) → only (fun q i => q = 518 ∨ q = 519 ∨ (q = 480 ∧ i = 0)) σ σ' → σ'.2 480 0 = 0 → 2 ≤ A.length → Tr Ls N 322 26 [some (mP (some 480)), some (mI (mvT A B done)), some (mI (done.length : Int))] [] σ' post := by
    intro rest
    induction rest with
    | nil =>
      intro done σ' e k1 k2 k3 h2
      rw [List.append_nil] at e k1
      have e9 := congrArg List.length e
      have hml : (done.map (mvE A B)).length = done.length := List.length_map _
      repeat (first | refine tr_mgr rfl (by decide) rfl ?_ | refine tr_mgi rfl (by decide) (by decide) rfl ?_ | refine tr_mv rfl (fun _ => rfl) ?_)
      rw [k1.1, hml]
      refine tr_cmp2 rfl (m32_of (by omega)) (m32_of (by omega)) (fun _ => ?_) (fun c1 => absurd (Int.le_refl _) c1)
      iterate 2 (refine tr_mv rfl (fun _ => rfl) ?_)
      refine tr_mpi rfl (Or.inl rfl) (by decide) rfl ?_
      iterate 1 (refine tr_mv rfl (fun _ => rfl) ?_)
      refine tr_ri rfl rfl ?_
      rw [← e] at k1 ⊢
      refine K2 _ h2 (k1.of (C := fun q i => q = 480 ∧ i = 67) ((only.rf (σ := σ')).setF ⟨rfl, rfl⟩) (fun q i h => by omega)) (setF_same ..) (by rw [setF_ne _ _ (by omega)]; exact k3) ((k2.wk (fun q i h => by omega)).setF (Or.inr (Or.inr ⟨rfl, Or.inr rfl⟩)))
    | cons u rest ih =>
      intro done σ' e k1 k2 k3 h2
      have hlen : en.length = done.length + 1 + rest.length := by rw [e]; simp; omega
      have hml : (done.map (mvE A B)).length = done.length := List.length_map _
      have hk := hok u (by rw [e]; simp)
      have hkl := hk.len
      have hk10 := hk.2.2.2.2.1
      have hcu := k1.2.2 done.length (by omega)
      rw [show (done.map (mvE A B) ++ u :: rest).getD done.length enD = u by have := mid_at (P := done.map (mvE A B)) (S := rest) (u := u); rw [hml] at this; exact this] at hcu
      have htb := tb done (fun e he => hok e (by rw [‹en = _›]; exact List.mem_append.mpr (Or.inl he)))
      have hud := mvD_le (A := A) (B := B) (l := enM u)
      repeat (first | refine tr_mgr rfl (by decide) rfl ?_ | refine tr_mgi rfl (by decide) (by decide) rfl ?_ | refine tr_mv rfl (fun _ => rfl) ?_)
      rw [k1.1, show ((done.map (mvE A B) ++ u :: rest).length : Int) = (en.length : Int) by rw [List.length_append, hml, hlen, List.length_cons]; omega]
      refine tr_cmp2 rfl (m32_of (by omega)) (m32_of (by omega)) (fun c9 => absurd c9 (by show ¬ _ ≤ _; omega)) (fun _ => ?_)
      iterate 3 (refine tr_mv rfl (fun _ => rfl) ?_)
      refine tr_vc (q := 480) rfl isO_480 rfl rfl rfl (s_321 (a := done.length) (M := enM u) (A := A) (B := B) (by omega) hk.2.2.1 (by omega) hcu.2.2.2.1 hcu.2.2.2.2 ((k2.2 _ _ (by omega)).trans hcp) (hA.only k2 (fun i _ _ => by omega)) (hB.only k2 (fun i _ _ => by omega)) hp (fun σ2 g1 g2 g3 => ?_))
      iterate 4 (refine tr_mv rfl (fun _ => rfl) ?_)
      show Tr Ls N 322 26 [some (mP (some 480)), some (mI ((mvT A B done : Int) + (mvD A B (enM u) : Int))), some (mI ((done.length : Int) + 1))] [] σ2 post
      rw [show (done.length : Int) + 1 = ((done ++ [u]).length : Int) by simp, show (mvT A B done : Int) + (mvD A B (enM u) : Int) = (mvT A B (done ++ [u]) : Int) by unfold mvT; simp]
      refine ih (done ++ [u]) σ2 (by rw [e]; simp) ?_ (k2.tr (g3.wk (fun q i h => by omega))) ((g3.2 _ _ (by omega)).trans k3) h2
      rw [show (done ++ [u]).map (mvE A B) ++ rest = done.map (mvE A B) ++ mvE A B u :: rest by simp]
      refine k1.step (by rw [List.length_append, hml, List.length_cons]; omega) (by rw [hml]; exact g3) ⟨rfl, rfl, rfl, rfl, rfl, rfl, rfl⟩ (by rw [hml]; exact g1) (by rw [hml]; exact g2) (fun e' he => ?_)
      rcases List.mem_append.mp he with g | g
      · obtain ⟨e0, he0, rfl⟩ := List.mem_map.mp g
        have q1 := hok e0 (by rw [e]; exact List.mem_append.mpr (Or.inl he0))
        have q2 := q1.len
        have q3 := q1.2.2.2.2.1
        have q4 := mvL_len (A := A) (B := B) (enM e0) []
        show ((enM e0).foldl (mvS A B) []).length ≤ 10
        simp only [List.length_nil] at q4
        omega
      · have q1 := hok e' (by rw [e]; exact List.mem_append.mpr (Or.inr g))
        have q2 := q1.len
        have q3 := q1.2.2.2.2.1
        omega
  repeat (first | refine tr_mgr rfl (by decide) rfl ?_ | refine tr_mgi rfl (by decide) (by decide) rfl ?_ | refine tr_mv rfl (fun _ => rfl) ?_)
  rw [hcp]
  refine tr_cmp2 rfl (m32_of (by omega)) (m32_of (by omega)) (fun c1 => ?_) (fun c1 => ?_)
  · have c2 : 2 ≤ (A.length : Int) := c1
    iterate 1 (refine tr_mv rfl (fun _ => rfl) ?_)
    refine tr_vc (q := 480) rfl isO_480 rfl rfl rfl (s_210 (by decide) ?_)
    rw [b2, if_pos rfl]
    iterate 5 (refine tr_mv rfl (fun _ => rfl) ?_)
    show Tr Ls N 322 26 [some (mP (some 480)), some (mI ((mvT A B [] : Nat) : Int)), some (mI ((([] : List EnT).length : Nat) : Int))] [] (setF σ 480 0 0) post
    exact loop en [] _ rfl (cE.of (C := fun q i => q = 480 ∧ i = 0) ((only.rf (σ := σ)).setF ⟨rfl, rfl⟩) (fun q i h => by omega)) (only.rf.setF (Or.inr (Or.inr ⟨rfl, rfl⟩))) (setF_same ..) (by omega)
  · have c2 : ¬ 2 ≤ (A.length : Int) := c1
    iterate 2 (refine tr_mv rfl (fun _ => rfl) ?_)
    refine tr_vc (q := 480) rfl isO_480 rfl rfl rfl (s_210 (by decide) ?_)
    rw [b2, if_neg (by decide)]
    repeat (refine tr_mv rfl (fun _ => rfl) ?_)
    exact tr_ri rfl rfl (K1 (by omega))
end EDIT
