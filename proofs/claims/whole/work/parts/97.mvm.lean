/-! Locators move: the methods. -/
section MVM
variable {Ls N k pc n n' nn b c t a q kd w d p X T : Nat} {L0 : mLs} {st r as : List mV} {h h' : mH} {σ σ' σ'' : Sg} {post : tP} {x y z x' y' i i' s v m u lv : Int} {xs ys ss L M P A B : List Int} {e : mE} {C : Nat → Nat → Prop} {R : Nat → Prop} {tx : List (List Int)} {en : List EnT}
theorem mvD_snoc {l : List Int} {c : Int} : mvD A B (l ++ [c]) = mvD A B l + (if mvF A B (c % 1000) = -1 then 1 else 0) := by
  unfold mvD
  rw [List.filter_append, List.length_append]
  by_cases g : mvF A B (c % 1000) = -1
  · rw [if_pos g, List.filter_cons_of_pos (p := fun c => decide (mvF A B (c % 1000) = -1)) (decide_eq_true g)]
    rfl
  · rw [if_neg g, List.filter_cons_of_neg (p := fun c => decide (mvF A B (c % 1000) = -1)) (by simpa using g)]
    rfl
theorem mvS_in {acc : List Int} {c : Int} (h : mvF A B (c % 1000) = -1 ∨ mvC A B c ∈ acc) : mvS A B acc c = acc := if_pos h
theorem mvS_out {acc : List Int} {c : Int} (h : ¬ (mvF A B (c % 1000) = -1 ∨ mvC A B c ∈ acc)) : mvS A B acc c = acc ++ [mvC A B c] := if_neg h
theorem mvD_le {l : List Int} : mvD A B l ≤ l.length := List.length_filter_le _ _
theorem mvL_ok (hp : okPins A B) : ∀ {l : List Int}, (∀ c ∈ l, okLc c) → ∀ x ∈ l.foldl (mvS A B) [], okLc x := fun {l} h x hx => by
  rcases (mvL_mem l []).mp hx with g | ⟨c, hc, hn, rfl⟩
  · exact absurd g List.not_mem_nil
  · exact (mvC_ok hp (h c hc) hn).1
theorem s_66 (ht : isE t) (hA : σ.1 104 = A) (hB : σ.1 106 = B) (hp : okPins A B) (hL : σ.1 (t + 1) = L) (hok : ∀ c ∈ L, okLc c) (hl : L.length ≤ 10) (K : post (.inl (some (mI (mvD A B L)))) (setR (setR σ (t + 3) (mvL A B L)) (t + 1) (mvL A B L))) : Tr Ls N 66 0 [some (mP (some t)), some (mP (some 103)), none, none, none, none] [] σ post := by
  have ht2 : 360 ≤ t := by obtain ⟨j, _, rfl⟩ := ht; omega
  have loop : ∀ (rest done : List Int) (v4 v5 : Option mV), L = done ++ rest → Tr Ls N 66 11 [some (mP (some t)), some (mP (some 103)), some (mI (mvD A B done)), some (mI (done.length : Int)), v4, v5] [] (setR σ (t + 3) (done.foldl (mvS A B) [])) post := by
    intro rest
    induction rest with
    | nil =>
      intro done v4 v5 e
      rw [List.append_nil] at e
      have e9 := congrArg List.length e
      have hll := mvL_len (A := A) (B := B) L []
      iterate 2 (refine tr_mv rfl (fun _ => rfl) ?_)
      refine tr_gr rfl (E_O ht) (by decide) (E_p5 ht) ?_
      refine tr_size (E_r5 ht) rfl rfl ?_
      rw [setR_ne _ _ (by omega), hL]
      refine tr_cmp2 rfl (m32_of (by omega)) (m32_of (by omega)) (fun _ => ?_) (fun c1 => absurd (show (L.length : Int) ≤ (done.length : Int) by omega) c1)
      rw [← e]
      iterate 1 (refine tr_mv rfl (fun _ => rfl) ?_)
      refine tr_gr rfl (E_O ht) (by decide) (E_p5 ht) ?_
      iterate 1 (refine tr_mv rfl (fun _ => rfl) ?_)
      refine tr_gr rfl (E_O ht) (by decide) (E_p6 ht) ?_
      refine tr_vc (q := t + 1) rfl ⟨(E_r5 ht).1, (E_r5 ht).2.1⟩ rfl rfl rfl (s_102 (E_r5 ht) (E_r6 ht) (by omega) (by rw [setR_same]; simp only [List.length_nil] at hll; omega) ?_)
      rw [setR_same]
      iterate 1 (refine tr_mv rfl (fun _ => rfl) ?_)
      exact tr_ri rfl rfl K
    | cons z rest ih =>
      intro done v4 v5 e
      have hlen : L.length = done.length + 1 + rest.length := by rw [e]; simp; omega
      have hz := hok z (by rw [e]; simp)
      have hks := swc_ok hz
      have hrg := mvF_range hp (z % 1000)
      have hll := mvL_len (A := A) (B := B) done []
      have hdl := mvD_le (A := A) (B := B) (l := done)
      have hr3 := rk_in3 (y := z / 1000) (by omega)
      have hkd : ∀ x ∈ done.foldl (mvS A B) [], okLc x := mvL_ok hp (fun c hc => hok c (by rw [e]; exact List.mem_append.mpr (Or.inl hc)))
      have hgz : rget ((setR σ (t + 3) (done.foldl (mvS A B) [])).1 (t + 1)) (done.length : Int) = z := by
        rw [setR_ne _ _ (by omega), hL]
        exact rget_app e
      -- behind one locator
      have h90 : ∀ (dd : Int) (acc : List Int) (v4 v5 : Option mV), dd = mvD A B (done ++ [z]) → acc = (done ++ [z]).foldl (mvS A B) [] → Tr Ls N 66 90 [some (mP (some t)), some (mP (some 103)), some (mI dd), some (mI (done.length : Int)), v4, v5] [] (setR σ (t + 3) acc) post := by
        intro dd acc v4 v5 e1 e2
        iterate 2 (refine tr_mv rfl (fun _ => rfl) ?_)
        show Tr Ls N 66 11 [some (mP (some t)), some (mP (some 103)), some (mI dd), some (mI ((done.length : Int) + 1)), v4, v5] [] (setR σ (t + 3) acc) post
        rw [show (done.length : Int) + 1 = ((done ++ [z]).length : Int) by simp, e1, e2]
        exact ih (done ++ [z]) _ _ (by rw [e]; simp)
      have hfold : (done ++ [z]).foldl (mvS A B) [] = mvS A B (done.foldl (mvS A B) []) z := by rw [List.foldl_append]; rfl
      iterate 2 (refine tr_mv rfl (fun _ => rfl) ?_)
      refine tr_gr rfl (E_O ht) (by decide) (E_p5 ht) ?_
      refine tr_size (E_r5 ht) rfl rfl ?_
      rw [setR_ne _ _ (by omega), hL]
      refine tr_cmp2 rfl (m32_of (by omega)) (m32_of (by omega)) (fun c9 => absurd c9 (by show ¬ _ ≤ _; omega)) (fun _ => ?_)
      iterate 2 (refine tr_mv rfl (fun _ => rfl) ?_)
      refine tr_gr rfl (E_O ht) (by decide) (E_p5 ht) ?_
      iterate 1 (refine tr_mv rfl (fun _ => rfl) ?_)
      refine tr_at2 (E_r5 ht) (m32_of (by omega)) rfl rfl ?_
      rw [hgz]
      refine tr_stat rfl rfl rfl (s_62 (by omega) ?_)
      refine tr_vc (q := 103) rfl ⟨by decide, by decide +kernel⟩ rfl rfl rfl (s_91 (A := A) (B := B) (by rw [setR_ne _ _ (by omega)]; exact hA) (by rw [setR_ne _ _ (by omega)]; exact hB) hp (by omega) ?_)
      iterate 3 (refine tr_mv rfl (fun _ => rfl) ?_)
      refine tr_gr rfl (E_O ht) (by decide) (E_p5 ht) ?_
      iterate 1 (refine tr_mv rfl (fun _ => rfl) ?_)
      refine tr_at2 (E_r5 ht) (m32_of (by omega)) rfl rfl ?_
      rw [hgz]
      refine tr_stat rfl rfl rfl (s_63 (by omega) ?_)
      refine tr_stat rfl rfl rfl (s_61 (by omega) ?_)
      rw [hks.2.2.2.2, show 1000 * (z / 1000) + mvF A B (z % 1000) = mvC A B z from rfl]
      have hcr : -1 ≤ mvC A B z ∧ mvC A B z < 4000 := by unfold mvC; omega
      iterate 3 (refine tr_mv rfl (fun _ => rfl) ?_)
      refine tr_cmp2 rfl (m32_of (by omega)) (m32_of (by omega)) (fun c1 => ?_) (fun c1 => ?_)
      · have c2 : ¬ mvF A B (z % 1000) = -1 := c1
        have hsn : mvD A B (done ++ [z]) = mvD A B done := by rw [mvD_snoc, if_neg c2, Nat.add_zero]
        iterate 1 (refine tr_mv rfl (fun _ => rfl) ?_)
        refine tr_gr rfl (E_O ht) (by decide) (E_p6 ht) ?_
        iterate 1 (refine tr_mv rfl (fun _ => rfl) ?_)
        refine tr_vc (q := t + 3) rfl ⟨(E_r6 ht).1, (E_r6 ht).2.1⟩ rfl rfl rfl (s_104 (E_r6 ht) (by omega) ?_)
        rw [setR_same]
        first | refine tr_ib rfl (fun c3 => ?_) (fun c3 => ?_) | refine tr_ibn rfl (fun c3 => ?_) (fun c3 => ?_)
        · exact h90 _ _ _ _ (by rw [hsn]) (by rw [hfold, mvS_in (Or.inr c3)])
        · iterate 1 (refine tr_mv rfl (fun _ => rfl) ?_)
          refine tr_gr rfl (E_O ht) (by decide) (E_p6 ht) ?_
          iterate 1 (refine tr_mv rfl (fun _ => rfl) ?_)
          refine tr_put (E_r6 ht) (by omega) rfl rfl ?_
          rw [setR_same, rput_lt (by simp only [List.length_nil] at hll; omega), setR_setR]
          exact h90 _ _ _ _ (by rw [hsn]) (by rw [hfold, mvS_out (fun g => g.elim c2 c3)])
      · have c2 : mvF A B (z % 1000) = -1 := Decidable.of_not_not c1
        have hsn : mvD A B (done ++ [z]) = mvD A B done + 1 := by rw [mvD_snoc, if_pos c2]
        iterate 2 (refine tr_mv rfl (fun _ => rfl) ?_)
        exact h90 _ _ _ _ (by rw [hsn]; omega) (by rw [hfold, mvS_in (Or.inl c2)])
  iterate 3 (refine tr_mv rfl (fun _ => rfl) ?_)
  refine tr_gr rfl (E_O ht) (by decide) (E_p6 ht) ?_
  refine tr_clear (E_r6 ht) rfl rfl ?_
  iterate 2 (refine tr_mv rfl (fun _ => rfl) ?_)
  show Tr Ls N 66 11 [some (mP (some t)), some (mP (some 103)), some (mI ((mvD A B [] : Nat) : Int)), some (mI ((([] : List Int).length : Nat) : Int)), none, none] [] (setR σ (t + 3) []) post
  exact loop L [] _ _ rfl
abbrev cLo (a q i : Nat) : Prop := (q = 518 ∧ 10 * a ≤ i ∧ i < 10 * a + 10) ∨ (q = 519 ∧ i = a)
theorem s_321 (ha : a < 24) (hok : ∀ m ∈ M, okLc m) (hl : M.length ≤ 10) (hc : σ.2 519 a = (M.length : Int)) (hm : mseg σ 518 (10 * a) M) (hcp : σ.2 480 67 = (A.length : Int)) (hA : mseg σ 531 0 A) (hB : mseg σ 532 0 B) (hp : okPins A B) (K : ∀ σ', σ'.2 519 a = ((mvL A B M).length : Int) → mseg σ' 518 (10 * a) (mvL A B M) → only (cLo a) σ σ' → post (.inl (some (mI (mvD A B M)))) σ') :
    Tr Ls N 321 0 [some (mP (some 480)), some (mI (a : Int)), none, none, none, none, none] [] σ post := by
  have loop : ∀ (rest done : List Int) (σ' : Sg) (v5 v6 : Option mV), M = done ++ rest → σ'.2 519 a = ((done.foldl (mvS A B) []).length : Int) → mseg σ' 518 (10 * a) (done.foldl (mvS A B) []) → (∀ i, done.length ≤ i → i < M.length → σ'.2 518 (10 * a + i) = M.getD i 0) → only (cLo a) σ σ' →
      Tr Ls N 321 22 [some (mP (some 480)), some (mI (a : Int)), some (mI (mvD A B done)), some (mI (M.length : Int)), some (mI ((10 * a + done.length : Nat) : Int)), v5, v6] [] σ' post := by
    intro rest
    induction rest with
    | nil =>
      intro done σ' v5 v6 e k1 k2 k3 k4
      rw [List.append_nil] at e
      have e9 := congrArg List.length e
      iterate 6 (refine tr_mv rfl (fun _ => rfl) ?_)
      refine tr_cmp2 rfl (m32_of (by omega)) (m32_of (by omega)) (fun _ => ?_) (fun c1 => absurd (show 10 * (a : Int) + (M.length : Int) ≤ ((10 * a + done.length : Nat) : Int) by omega) c1)
      rw [← e] at k1 k2 ⊢
      iterate 1 (refine tr_mv rfl (fun _ => rfl) ?_)
      exact tr_ri rfl rfl (K σ' k1 k2 k4)
    | cons z rest ih =>
      intro done σ' v5 v6 e k1 k2 k3 k4
      have hlen : M.length = done.length + 1 + rest.length := by rw [e]; simp; omega
      have hz := hok z (by rw [e]; simp)
      have hrg := mvF_range hp (z % 1000)
      have hll := mvL_len (A := A) (B := B) done []
      simp only [List.length_nil] at hll
      have hdl := mvD_le (A := A) (B := B) (l := done)
      have hkd : ∀ x ∈ done.foldl (mvS A B) [], okLc x := mvL_ok hp (fun c hc => hok c (by rw [e]; exact List.mem_append.mpr (Or.inl hc)))
      have hgz : σ'.2 518 (10 * a + done.length) = z := by
        rw [k3 _ (Nat.le_refl _) (by omega), e, List.getD_eq_getElem?_getD]
        simp
      have hfold : (done ++ [z]).foldl (mvS A B) [] = mvS A B (done.foldl (mvS A B) []) z := by rw [List.foldl_append]; rfl
      have hcr : -1 ≤ mvC A B z ∧ mvC A B z < 4000 := by unfold mvC; omega
      have h129 : ∀ (dd : Int) (σ2 : Sg) (v5 v6 : Option mV), dd = mvD A B (done ++ [z]) → σ2.2 519 a = (((done ++ [z]).foldl (mvS A B) []).length : Int) → mseg σ2 518 (10 * a) ((done ++ [z]).foldl (mvS A B) []) → (∀ i, done.length + 1 ≤ i → i < M.length → σ2.2 518 (10 * a + i) = M.getD i 0) → only (cLo a) σ σ2 →
          Tr Ls N 321 129 [some (mP (some 480)), some (mI (a : Int)), some (mI dd), some (mI (M.length : Int)), some (mI ((10 * a + done.length : Nat) : Int)), v5, v6] [] σ2 post := by
        intro dd σ2 v5 v6 e1 g1 g2 g3 g4
        iterate 2 (refine tr_mv rfl (fun _ => rfl) ?_)
        show Tr Ls N 321 22 [some (mP (some 480)), some (mI (a : Int)), some (mI dd), some (mI (M.length : Int)), some (mI (((10 * a + done.length : Nat) : Int) + 1)), v5, v6] [] σ2 post
        rw [show ((10 * a + done.length : Nat) : Int) + 1 = ((10 * a + (done ++ [z]).length : Nat) : Int) by simp; omega, e1]
        exact ih (done ++ [z]) σ2 _ _ (by rw [e]; simp) g1 g2 (fun i h1 h2 => g3 i (by simp at h1; omega) h2) g4
      iterate 6 (refine tr_mv rfl (fun _ => rfl) ?_)
      refine tr_cmp2 rfl (m32_of (by omega)) (m32_of (by omega)) (fun c9 => absurd c9 (by show ¬ _ ≤ _; omega)) (fun _ => ?_)
      repeat (first | refine tr_mgr rfl (by decide) rfl ?_ | refine tr_mgi rfl (by decide) (by decide) rfl ?_ | refine tr_mv rfl (fun _ => rfl) ?_)
      refine tr_man (j := 10 * a + done.length) rfl (by omega) (by omega) rfl (fun _ => rfl) rfl rfl rfl ?_
      rw [hgz]
      iterate 1 (refine tr_mv rfl (fun _ => rfl) ?_)
      refine tr_rem ?_ ?_ rfl ?_; omega; omega
      refine tr_vc (q := 480) rfl isO_480 rfl rfl rfl (s_320 (A := A) (B := B) ((k4.2 _ _ (by omega)).trans hcp) (hA.only k4 (fun i _ _ => by omega)) (hB.only k4 (fun i _ _ => by omega)) hp (by omega) ?_)
      iterate 1 (refine tr_mv rfl (fun _ => rfl) ?_)
      repeat (first | refine tr_mgr rfl (by decide) rfl ?_ | refine tr_mgi rfl (by decide) (by decide) rfl ?_ | refine tr_mv rfl (fun _ => rfl) ?_)
      refine tr_man (j := 10 * a + done.length) rfl (by omega) (by omega) rfl (fun _ => rfl) rfl rfl rfl ?_
      rw [hgz]
      iterate 1 (refine tr_mv rfl (fun _ => rfl) ?_)
      refine tr_div ?_ ?_ rfl ?_; omega; omega
      iterate 5 (refine tr_mv rfl (fun _ => rfl) ?_)
      rw [show z / 1000 * 1000 + mvF A B (z % 1000) = mvC A B z by unfold mvC; omega]
      iterate 3 (refine tr_mv rfl (fun _ => rfl) ?_)
      refine tr_cmp2 rfl (m32_of (by omega)) (m32_of (by omega)) (fun c1 => ?_) (fun c1 => ?_)
      · have c2 : ¬ mvF A B (z % 1000) = -1 := c1
        have hsn : mvD A B (done ++ [z]) = mvD A B done := by rw [mvD_snoc, if_neg c2, Nat.add_zero]
        iterate 5 (refine tr_mv rfl (fun _ => rfl) ?_)
        refine tr_cmp2 rfl (m32_of (by omega)) (m32_of (by omega)) (fun c3 => ?_) (fun c3 => ?_)
        · exact absurd c3 c2
        · iterate 3 (refine tr_mv rfl (fun _ => rfl) ?_)
          refine tr_vc (q := 480) rfl isO_480 rfl rfl rfl (s_285 ha k1 k2 (by omega) hkd (by omega) (fun v hv hvd => ?_))
          iterate 1 (refine tr_mv rfl (fun _ => rfl) ?_)
          refine tr_cmp2 rfl (m32_of (by omega)) (m32_of (by omega)) (fun c4 => ?_) (fun c4 => ?_)
          · have c5 : mvC A B z ∈ done.foldl (mvS A B) [] := Decidable.of_not_not (fun g => c4 (hvd.mpr g))
            have hf2 : (done ++ [z]).foldl (mvS A B) [] = done.foldl (mvS A B) [] := by rw [hfold, mvS_in (Or.inr c5)]
            exact h129 _ σ' _ _ (by rw [hsn]; omega) (by rw [hf2]; exact k1) (by rw [hf2]; exact k2) (fun i h1 h2 => k3 i (by omega) h2) k4
          · have c5 : mvC A B z ∉ done.foldl (mvS A B) [] := hvd.mp (Decidable.of_not_not c4)
            have hf2 : (done ++ [z]).foldl (mvS A B) [] = done.foldl (mvS A B) [] ++ [mvC A B z] := by rw [hfold, mvS_out (fun g => g.elim c2 c5)]
            repeat (first | refine tr_mgr rfl (by decide) rfl ?_ | refine tr_mgi rfl (by decide) (by decide) rfl ?_ | refine tr_mv rfl (fun _ => rfl) ?_)
            refine tr_man (j := a) rfl (by omega) (by omega) rfl (fun _ => rfl) rfl rfl rfl ?_
            rw [k1]
            iterate 2 (refine tr_mv rfl (fun _ => rfl) ?_)
            refine tr_msn (j := 10 * a + (done.foldl (mvS A B) []).length) rfl (by omega) (by omega) rfl (fun _ => rfl) rfl rfl rfl ?_
            repeat (first | refine tr_mgr rfl (by decide) rfl ?_ | refine tr_mgi rfl (by decide) (by decide) rfl ?_ | refine tr_mv rfl (fun _ => rfl) ?_)
            refine tr_man (j := a) rfl (by omega) (by omega) rfl (fun _ => rfl) rfl rfl rfl ?_
            rw [setF_ne _ _ (by omega), k1]
            iterate 2 (refine tr_mv rfl (fun _ => rfl) ?_)
            refine tr_msn (j := a) rfl (by omega) (by omega) rfl (fun _ => rfl) rfl rfl rfl ?_
            refine h129 _ _ _ _ (by rw [hsn]; omega) ?_ ?_ (fun i h1 h2 => ?_) ((k4.setF (Or.inl ⟨rfl, by omega, by omega⟩)).setF (Or.inr ⟨rfl, rfl⟩))
            · rw [setF_same, hf2]
              simp
            · rw [hf2]
              exact (k2.push (v := mvC A B z)).keep (fun i _ _ => setF_ne _ _ (by omega))
            · rw [setF_ne _ _ (by omega), setF_ne _ _ (by omega)]
              exact k3 i (by omega) h2
      · have c2 : mvF A B (z % 1000) = -1 := Decidable.of_not_not c1
        have hsn : mvD A B (done ++ [z]) = mvD A B done + 1 := by rw [mvD_snoc, if_pos c2]
        have hf2 : (done ++ [z]).foldl (mvS A B) [] = done.foldl (mvS A B) [] := by rw [hfold, mvS_in (Or.inl c2)]
        iterate 6 (refine tr_mv rfl (fun _ => rfl) ?_)
        refine tr_cmp2 rfl (m32_of (by omega)) (m32_of (by omega)) (fun c3 => ?_) (fun c3 => ?_)
        · exact h129 _ σ' _ _ (by rw [hsn]; omega) (by rw [hf2]; exact k1) (by rw [hf2]; exact k2) (fun i h1 h2 => k3 i (by omega) h2) k4
        · exact absurd c2 c3
  repeat (first | refine tr_mgr rfl (by decide) rfl ?_ | refine tr_mgi rfl (by decide) (by decide) rfl ?_ | refine tr_mv rfl (fun _ => rfl) ?_)
  refine tr_man (j := a) rfl (by omega) (by omega) rfl (fun _ => rfl) rfl rfl rfl ?_
  rw [hc]
  repeat (first | refine tr_mgr rfl (by decide) rfl ?_ | refine tr_mgi rfl (by decide) (by decide) rfl ?_ | refine tr_mv rfl (fun _ => rfl) ?_)
  refine tr_msn (j := a) rfl (by omega) (by omega) rfl (fun _ => rfl) rfl rfl rfl ?_
  iterate 4 (refine tr_mv rfl (fun _ => rfl) ?_)
  show Tr Ls N 321 22 [some (mP (some 480)), some (mI (a : Int)), some (mI 0), some (mI (M.length : Int)), some (mI (10 * (a : Int))), none, none] [] _ post
  rw [show 10 * (a : Int) = ((10 * a + ([] : List Int).length : Nat) : Int) by simp]
  exact loop M [] _ _ _ rfl (setF_same ..) (fun i hi => absurd hi (Nat.not_lt_zero i)) (fun i _ hi => by rw [setF_ne _ _ (by omega)]; exact hm i hi) (only.rf.setF (Or.inr ⟨rfl, rfl⟩))
end MVM
