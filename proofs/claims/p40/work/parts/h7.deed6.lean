/-! The law's deeds: locators, references; which deed it is. -/
section DEED6
variable {Ls N N1 k pc n a b c p q w tn tu Y t e X j ru m kk dd : Nat} {L : mLs} {r : List mV} {σ σ' σ0 σ1 σ2 : Sg} {post : tP} {i x y z v d : Int} {B M : Int → Int} {ds an dA A A2 : List Int} {ws rs PA PB : List Int} {tx : List (List Int)} {D3 : Nat → TD} {o3 : Nat → Nat → Int} {R3 : Nat → RuT} {hd : Nat → Int} {en : List EnT} {bf : Nat → List Nat} {rd : Nat → List Int} {hh ww : Int} {v11 v12 v13 v14 v15 v16 v17 v18 v19 v20 : Option mV} {wn : EnT}
theorem en_id (ha : a < en.length) : en.set a (en.getD a enD) = en := set_id rfl ha
set_option maxRecDepth 8000 in
theorem law_1160 (h : LI σ p q w) (hY : Y < 2 ^ 28) (he : e < q) (K : jnK Ls N q tn tu Y t e x d post) : Tr Ls (N + 1) 364 1160 (lwD p q w tn tu Y t e x d v16 v17 v18 v19 v20) [] σ post := by
  obtain ⟨B, M, ds, an, tx, D3, o3, R3, hd, en, bf, ws, rs, rd, PA, PB, hh, ww, h, ⟨hds, hrd, hrs, htx, hA, h12, h10⟩, hp, hq, hw⟩ := h
  have hl := h.1.lens
  have d6 : Y / 2 ^ 6 ≤ Y := Nat.div_le_self _ _
  have d7 : Y / 2 ^ 7 ≤ Y := Nat.div_le_self _ _
  have d17 : Y / 2 ^ 17 ≤ Y := Nat.div_le_self _ _
  have m17 : Y / 2 ^ 17 % 3 < 3 := Nat.mod_lt _ (by decide)
  have he2 : e < en.length := by omega
  have hr : ds = [] ∧ (∀ i, rd i = []) ∧ (∀ r ∈ rs, r = -1) ∧ (∀ t ∈ tx, okT t) ∧ ws.length ≤ 10 := ⟨hds, hrd, hrs, htx, h10⟩
  have hA1 := (hA.1 e he2).2.2
  have hid := en_id he2
  iterate 3 (refine tr_mv rfl (fun _ => rfl) ?_)
  refine tr_shrn (a := Y) (p := 7) (by omega) (by decide) rfl ?_
  iterate 2 (refine tr_mv rfl (fun _ => rfl) ?_)
  refine tr_shrn (a := Y) (p := 6) (by omega) (by decide) rfl ?_
  iterate 1 (refine tr_mv rfl (fun _ => rfl) ?_)
  refine tr_and1 (a := Y / 2 ^ 6) (by omega) rfl ?_
  have key : ∀ g : Nat, (g = 20 ∨ g = 999) → Tr Ls (N + 1) 364 1184 (lwD p q w tn tu Y t e x d v16 v17 v18 v19 v20) [mI (g : Int), mI ((Y / 2 ^ 7 : Nat) : Int), mI 1] σ post := by
    intro g hg
    have mg : Y / 2 ^ 7 % g < g := Nat.mod_lt _ (by omega)
    refine tr_remn (a := Y / 2 ^ 7) (b := g) (by omega) (by omega) rfl ?_
    iterate 8 (refine tr_mv rfl (fun _ => rfl) ?_)
    refine tr_shrn (a := Y) (p := 17) (by omega) (by decide) rfl ?_
    iterate 1 (refine tr_mv rfl (fun _ => rfl) ?_)
    refine tr_remn (a := Y / 2 ^ 17) (b := 3) (by omega) (by omega) rfl ?_
    refine tr_stat1 rfl rfl rfl (p_6 (N := 0) h he2 (by omega) (by omega) (fun g10 => ?_) ?_ (fun σ1 wn g1 g2 g3 g4 h1 k1 => ?_))
    · iterate 6 (refine tr_mv rfl (fun _ => rfl) ?_)
      refine tr_la (Or.inr (Or.inr rfl)) (by omega) rfl ?_
      rw [hA1, g10]
      iterate 4 (refine tr_mv rfl (fun _ => rfl) ?_)
      exact law_1263 (y := -13) (e := e) (wn := en.getD e enD) (by rw [hid]; exact h) hA he2 rfl rfl (by rw [if_neg (by decide)]; omega) (Or.inl rfl) hr h12 hp hq hw K _ rfl
    · iterate 8 (refine tr_mv rfl (fun _ => rfl) ?_)
      exact law_1263 (y := 0) (e := e) (wn := en.getD e enD) (by rw [hid]; exact h) hA he2 rfl rfl (by rw [if_neg (by decide)]; omega) (Or.inr (Or.inl rfl)) hr h12 hp hq hw K _ rfl
    · have hA2 := hA.of k1
      have hA3 := (hA2.1 e he2).2.2
      iterate 8 (refine tr_mv rfl (fun _ => rfl) ?_)
      refine tr_la (Or.inr (Or.inr rfl)) (by omega) rfl ?_
      rw [hA3]
      iterate 1 (refine tr_mv rfl (fun _ => rfl) ?_)
      refine tr_cmp2 rfl (m32_of (by omega)) (m32_of (by omega)) (fun c1 => ?_) (fun c1 => ?_)
      · exfalso
        omega
      iterate 2 (refine tr_mv rfl (fun _ => rfl) ?_)
      refine tr_vc (q := 2) rfl ⟨by decide, by decide +kernel⟩ rfl rfl rfl (q_160 h1 (by rw [List.length_set]; omega) ?_)
      rw [endE_self (by rw [List.length_set]; exact he2) (by
        rw [en_set he2, if_pos rfl]
        intro g5
        rw [g5] at g4
        simp at g4)]
      iterate 1 (refine tr_mv rfl (fun _ => rfl) ?_)
      refine tr_cmp2 rfl (m32_of (by omega)) (m32_of (by omega)) (fun c3 => absurd rfl c3) (fun c3 => ?_)
      iterate 2 (refine tr_mv rfl (fun _ => rfl) ?_)
      exact law_1263 (y := 1) (e := e) (wn := wn) h1 hA2 he2 g2.2.1 g2.2.2.1 (by rw [if_pos rfl, g4]; omega) (Or.inr (Or.inr rfl)) hr h12 hp hq hw K _ rfl
  refine tr_if2 rfl (m32_of (by omega)) (fun c1 => ?_) (fun c1 => ?_)
  · iterate 1 (refine tr_mv rfl (fun _ => rfl) ?_)
    exact key 999 (Or.inr rfl)
  · iterate 2 (refine tr_mv rfl (fun _ => rfl) ?_)
    exact key 20 (Or.inl rfl)
set_option maxRecDepth 8000 in
theorem law_1299 (h : LI σ p q w) (hY : Y < 2 ^ 28) (he : e < q) (K : jnK Ls N q tn tu Y t e x d post) : Tr Ls (N + 1) 364 1299 (lwD p q w tn tu Y t e x d v16 v17 v18 v19 v20) [] σ post := by
  have h0 := h
  obtain ⟨B, M, ds, an, tx, D3, o3, R3, hd, en, bf, ws, rs, rd, PA, PB, hh, ww, h, ⟨hds, hrd, hrs, htx, hA, h12, h10⟩, hp, hq, hw⟩ := h
  have hl := h.1.lens
  have d7 : Y / 2 ^ 7 ≤ Y := Nat.div_le_self _ _
  have d12 : Y / 2 ^ 12 ≤ Y := Nat.div_le_self _ _
  have m7 : Y / 2 ^ 7 % q < q := Nat.mod_lt _ (by omega)
  have m12 : Y / 2 ^ 12 % 2 < 2 := Nat.mod_lt _ (by decide)
  have he2 : e < en.length := by omega
  have hde := deadC_le en hl.2
  iterate 2 (refine tr_mv rfl (fun _ => rfl) ?_)
  refine tr_shrn (a := Y) (p := 7) (by omega) (by decide) rfl ?_
  iterate 1 (refine tr_mv rfl (fun _ => rfl) ?_)
  refine tr_remn (a := Y / 2 ^ 7) (b := q) (by omega) (by omega) rfl ?_
  generalize Y / 2 ^ 7 % q = b at *
  iterate 2 (refine tr_mv rfl (fun _ => rfl) ?_)
  refine tr_vc (q := 2) rfl ⟨by decide, by decide +kernel⟩ rfl rfl rfl (q_161 h ?_)
  iterate 7 (refine tr_mv rfl (fun _ => rfl) ?_)
  refine tr_shrn (a := Y) (p := 12) (by omega) (by decide) rfl ?_
  iterate 1 (refine tr_mv rfl (fun _ => rfl) ?_)
  refine tr_and1 (a := Y / 2 ^ 12) (by omega) rfl ?_
  refine tr_stat1 rfl rfl rfl (p_7 (N := 0) h he2 (b := b) (by omega) (by omega) (fun g => ?_) (fun g => ?_) (fun σ1 h1 k1 => ?_) (fun σ1 wn g1 g2 g3 h1 k1 => ?_))
  · subst g
    iterate 6 (refine tr_mv rfl (fun _ => rfl) ?_)
    refine tr_cmp2 rfl (m32_of (by omega)) (m32_of (by omega)) (fun c3 => absurd rfl c3) (fun c3 => ?_)
    iterate 4 (refine tr_mv rfl (fun _ => rfl) ?_)
    exact K σ p q w _ _ _ _ _ (Nat.le_refl _) h0
  · iterate 9 (refine tr_mv rfl (fun _ => rfl) ?_)
    refine tr_shrn (a := Y) (p := 12) (by omega) (by decide) rfl ?_
    iterate 1 (refine tr_mv rfl (fun _ => rfl) ?_)
    refine tr_and1 (a := Y / 2 ^ 12) (by omega) rfl ?_
    refine tr_if2 rfl (m32_of (by omega)) (fun c1 => ?_) (fun c1 => ?_)
    · exfalso
      omega
    iterate 1 (refine tr_mv rfl (fun _ => rfl) ?_)
    refine tr_vc (q := 2) rfl ⟨by decide, by decide +kernel⟩ rfl rfl rfl (q_161 h ?_)
    iterate 1 (refine tr_mv rfl (fun _ => rfl) ?_)
    refine tr_cmp2 rfl (m32_of (by omega)) (m32_of (by omega)) (fun c3 => absurd rfl c3) (fun c3 => ?_)
    iterate 4 (refine tr_mv rfl (fun _ => rfl) ?_)
    exact K σ p q w _ _ _ _ _ (Nat.le_refl _) h0
  · iterate 10 (refine tr_mv rfl (fun _ => rfl) ?_)
    refine tr_vc (q := 2) rfl ⟨by decide, by decide +kernel⟩ rfl rfl rfl (q_161 h1 ?_)
    iterate 1 (refine tr_mv rfl (fun _ => rfl) ?_)
    refine tr_cmp2 rfl (m32_of (by omega)) (m32_of (by omega)) (fun c3 => absurd rfl c3) (fun c3 => ?_)
    iterate 4 (refine tr_mv rfl (fun _ => rfl) ?_)
    exact K σ1 p q w _ _ _ _ _ (Nat.le_refl _) ⟨_, _, _, _, _, _, _, _, _, _, _, _, _, _, _, _, _, _, h1, ⟨hds, hrd, hrs, htx, hA.of k1, h12, h10⟩, hp, hq, hw⟩
  · have hde2 := deadC_le (en.set e wn) (by rw [List.length_set]; exact hl.2)
    iterate 10 (refine tr_mv rfl (fun _ => rfl) ?_)
    refine tr_vc (q := 2) rfl ⟨by decide, by decide +kernel⟩ rfl rfl rfl (q_161 h1 ?_)
    refine tr_if2 rfl (m32_of (by omega)) (fun c1 => ?_) (fun c1 => ?_)
    · exfalso
      omega
    iterate 4 (refine tr_mv rfl (fun _ => rfl) ?_)
    exact K σ1 p q w _ _ _ _ _ (Nat.le_refl _) ⟨_, _, _, _, _, _, _, _, _, _, _, _, _, _, _, _, _, _, h1, ⟨hds, hrd, hrs, htx, (hA.of k1).set he2 g2.2.1 g2.2.2.1 g3, by rw [List.length_set]; exact h12, h10⟩, hp, by rw [List.length_set]; exact hq, hw⟩
/-! which deed -/
set_option maxRecDepth 8000 in
theorem law_1477 (h : LI σ p q w) (hY : Y < 2 ^ 28) (hd15 : dd ≤ 15) (K : jnK Ls N q tn tu Y t e x (dd : Int) post) : Tr Ls N 364 1477 (lwD p q w tn tu Y t e x (dd : Int) v16 v17 v18 v19 v20) [] σ post := by
  iterate 2 (refine tr_mv rfl (fun _ => rfl) ?_)
  refine tr_cmp2 rfl (m32_of (by omega)) (m32_of (by omega)) (fun c1 => ?_) (fun c1 => ?_)
  · exact K σ p q w _ _ _ _ _ (Nat.le_refl _) h
  · exact law_1484 h hY K
set_option maxRecDepth 8000 in
theorem law_1429 (h : LI σ p q w) (hY : Y < 2 ^ 28) (hd15 : dd ≤ 15) (hp30 : p ≤ 30) (hw10 : w ≤ 10) (K : jnK Ls N q tn tu Y t e x (dd : Int) post) : Tr Ls N 364 1429 (lwD p q w tn tu Y t e x (dd : Int) v16 v17 v18 v19 v20) [] σ post := by
  iterate 2 (refine tr_mv rfl (fun _ => rfl) ?_)
  refine tr_cmp2 rfl (m32_of (by omega)) (m32_of (by omega)) (fun c1 => ?_) (fun c1 => ?_)
  · exact law_1477 h hY hd15 K
  iterate 1 (refine tr_mv rfl (fun _ => rfl) ?_)
  refine tr_if2 rfl (m32_of (by omega)) (fun c2 => ?_) (fun c2 => ?_)
  · exact law_1477 h hY hd15 K
  iterate 2 (refine tr_mv rfl (fun _ => rfl) ?_)
  refine tr_cmp2 rfl (m32_of (by omega)) (m32_of (by omega)) (fun c3 => ?_) (fun c3 => ?_)
  · exact law_1477 h hY hd15 K
  exact law_1448 h hY (by omega) (by omega) K
set_option maxRecDepth 8000 in
theorem law_1287 (h : LI σ p q w) (hY : Y < 2 ^ 28) (hd15 : dd ≤ 15) (hp30 : p ≤ 30) (hq12 : q ≤ 12) (hw10 : w ≤ 10) (he : 0 < q → e < q) (K : jnK Ls N q tn tu Y t e x (dd : Int) post) : Tr Ls (N + 1) 364 1287 (lwD p q w tn tu Y t e x (dd : Int) v16 v17 v18 v19 v20) [] σ post := by
  iterate 2 (refine tr_mv rfl (fun _ => rfl) ?_)
  refine tr_cmp2 rfl (m32_of (by omega)) (m32_of (by omega)) (fun c1 => ?_) (fun c1 => ?_)
  · exact tr_mono (law_1429 h hY hd15 hp30 hw10 K) (by omega)
  iterate 1 (refine tr_mv rfl (fun _ => rfl) ?_)
  refine tr_if2 rfl (m32_of (by omega)) (fun c2 => ?_) (fun c2 => ?_)
  · exact tr_mono (law_1429 h hY hd15 hp30 hw10 K) (by omega)
  exact law_1299 h hY (he (by omega)) K
set_option maxRecDepth 8000 in
theorem law_1148 (h : LI σ p q w) (hY : Y < 2 ^ 28) (hd15 : dd ≤ 15) (hp30 : p ≤ 30) (hq12 : q ≤ 12) (hw10 : w ≤ 10) (he : 0 < q → e < q) (K : jnK Ls N q tn tu Y t e x (dd : Int) post) : Tr Ls (N + 1) 364 1148 (lwD p q w tn tu Y t e x (dd : Int) v16 v17 v18 v19 v20) [] σ post := by
  iterate 2 (refine tr_mv rfl (fun _ => rfl) ?_)
  refine tr_cmp2 rfl (m32_of (by omega)) (m32_of (by omega)) (fun c1 => ?_) (fun c1 => ?_)
  · exact law_1287 h hY hd15 hp30 hq12 hw10 he K
  iterate 1 (refine tr_mv rfl (fun _ => rfl) ?_)
  refine tr_if2 rfl (m32_of (by omega)) (fun c2 => ?_) (fun c2 => ?_)
  · exact law_1287 h hY hd15 hp30 hq12 hw10 he K
  exact law_1160 h hY (he (by omega)) K
set_option maxRecDepth 8000 in
theorem law_1091 (h : LI σ p q w) (hY : Y < 2 ^ 28) (hd15 : dd ≤ 15) (hp30 : p ≤ 30) (hq12 : q ≤ 12) (hw10 : w ≤ 10) (he : 0 < q → e < q) (K : jnK Ls N q tn tu Y t e x (dd : Int) post) : Tr Ls (N + 1) 364 1091 (lwD p q w tn tu Y t e x (dd : Int) v16 v17 v18 v19 v20) [] σ post := by
  iterate 2 (refine tr_mv rfl (fun _ => rfl) ?_)
  refine tr_cmp2 rfl (m32_of (by omega)) (m32_of (by omega)) (fun c1 => ?_) (fun c1 => ?_)
  · exact law_1148 h hY hd15 hp30 hq12 hw10 he K
  exact tr_mono (law_1098 h hY K) (by omega)
set_option maxRecDepth 8000 in
theorem law_1012 (h : LI σ p q w) (hY : Y < 2 ^ 28) (hd15 : dd ≤ 15) (hp30 : p ≤ 30) (hq12 : q ≤ 12) (hw10 : w ≤ 10) (he : 0 < q → e < q) (K : jnK Ls N q tn tu Y t e x (dd : Int) post) : Tr Ls (N + 1) 364 1012 (lwD p q w tn tu Y t e x (dd : Int) v16 v17 v18 v19 v20) [] σ post := by
  iterate 2 (refine tr_mv rfl (fun _ => rfl) ?_)
  refine tr_cmp2 rfl (m32_of (by omega)) (m32_of (by omega)) (fun c1 => ?_) (fun c1 => ?_)
  · exact law_1091 h hY hd15 hp30 hq12 hw10 he K
  iterate 1 (refine tr_mv rfl (fun _ => rfl) ?_)
  refine tr_if2 rfl (m32_of (by omega)) (fun c2 => ?_) (fun c2 => ?_)
  · exact law_1091 h hY hd15 hp30 hq12 hw10 he K
  exact law_1024 h hY (he (by omega)) K
set_option maxRecDepth 8000 in
theorem law_866 (h : LI σ p q w) (hY : Y < 2 ^ 28) (hd15 : dd ≤ 15) (hp30 : p ≤ 30) (hq12 : q ≤ 12) (hw10 : w ≤ 10) (he : 0 < q → e < q) (K : jnK Ls N q tn tu Y t e x (dd : Int) post) : Tr Ls (N + 1) 364 866 (lwD p q w tn tu Y t e x (dd : Int) v16 v17 v18 v19 v20) [] σ post := by
  iterate 2 (refine tr_mv rfl (fun _ => rfl) ?_)
  refine tr_cmp2 rfl (m32_of (by omega)) (m32_of (by omega)) (fun c1 => ?_) (fun c1 => ?_)
  · exact law_1012 h hY hd15 hp30 hq12 hw10 he K
  iterate 2 (refine tr_mv rfl (fun _ => rfl) ?_)
  refine tr_cmp2 rfl (m32_of (by omega)) (m32_of (by omega)) (fun c2 => ?_) (fun c2 => ?_)
  · exact law_1012 h hY hd15 hp30 hq12 hw10 he K
  iterate 1 (refine tr_mv rfl (fun _ => rfl) ?_)
  refine tr_if2 rfl (m32_of (by omega)) (fun c3 => ?_) (fun c3 => ?_)
  · exact law_1012 h hY hd15 hp30 hq12 hw10 he K
  exact law_885 h hY (by omega) (by omega) he K
set_option maxRecDepth 8000 in
theorem law_208 (h : LI σ p q w) (hY : Y < 2 ^ 28) (hd15 : dd ≤ 15) (ht : t < 3) (hp30 : p ≤ 30) (hq12 : q ≤ 12) (hw10 : w ≤ 10) (he : 0 < q → e < q) (K : jnK Ls N q tn tu Y t e x (dd : Int) post) : Tr Ls (N + 10) 364 208 (lwD p q w tn tu Y t e x (dd : Int) v16 v17 v18 v19 v20) [] σ post := by
  have k778 : Tr Ls (N + 10) 364 778 (lwD p q w tn tu Y t e x (dd : Int) v16 v17 v18 v19 v20) [] σ post := by
    iterate 2 (refine tr_mv rfl (fun _ => rfl) ?_)
    refine tr_cmp2 rfl (m32_of (by omega)) (m32_of (by omega)) (fun c1 => ?_) (fun c1 => ?_)
    · exact tr_mono (law_866 h hY hd15 hp30 hq12 hw10 he K) (by omega)
    exact tr_mono (law_784 h hY ht K) (by omega)
  have k537 : Tr Ls (N + 10) 364 537 (lwD p q w tn tu Y t e x (dd : Int) v16 v17 v18 v19 v20) [] σ post := by
    iterate 2 (refine tr_mv rfl (fun _ => rfl) ?_)
    refine tr_cmp2 rfl (m32_of (by omega)) (m32_of (by omega)) (fun c1 => ?_) (fun c1 => ?_)
    · exact k778
    exact tr_mono (law_543 h hY ht K) (by omega)
  iterate 1 (refine tr_mv rfl (fun _ => rfl) ?_)
  refine tr_if2 rfl (m32_of (by omega)) (fun c1 => ?_) (fun c1 => ?_)
  · iterate 2 (refine tr_mv rfl (fun _ => rfl) ?_)
    refine tr_cmp2 rfl (m32_of (by omega)) (m32_of (by omega)) (fun c2 => ?_) (fun c2 => ?_)
    · exact k537
    iterate 2 (refine tr_mv rfl (fun _ => rfl) ?_)
    refine tr_cmp2 rfl (m32_of (by omega)) (m32_of (by omega)) (fun c3 => ?_) (fun c3 => ?_)
    · exact k537
    exact law_319 h hY (by omega) K
  · exact tr_mono (law_213 h hY K) (by omega)
end DEED6
