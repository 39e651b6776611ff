/-! The law's deeds: options, headings, words, columns, forms. -/
section DEED4
variable {Ls N N1 k pc n a b c p q w tn tu Y t e X j ru m kk : Nat} {L : mLs} {r : List mV} {σ σ' σ0 σ1 σ2 : Sg} {post : tP} {i x y z v d : Int} {B M : Int → Int} {ds an dA A A2 : List Int} {ws rs PA PB : List Int} {tx : List (List Int)} {D3 : Nat → TD} {o3 : Nat → Nat → Int} {R3 : Nat → RuT} {hd : Nat → Int} {en : List EnT} {bf : Nat → List Nat} {rd : Nat → List Int} {hh ww : Int} {v11 v12 v13 v14 v15 v16 v17 v18 v19 v20 : Option mV} {wn : EnT}
theorem StC.st (h : StC σ B M ds an tx D3 o3 R3 hd en bf ws rs rd PA PB hh ww) (hq : 480 ≤ kk) : StC (setF σ kk j x) B M ds an tx D3 o3 R3 hd en bf ws rs rd PA PB hh ww := by
  have ho : only (fun q i => q = kk) σ (setF σ kk j x) := by
    have k1 : only (fun q i => q = kk) σ (setF σ kk j x) := only.setF only.rf rfl
    exact k1
  exact ⟨h.1, h.2.ofm h.1.lens.1 h.1.lens.2 ho (fun q i g => by omega)⟩
theorem lawA.set (h : lawA σ en) (ha : a < en.length) (h1 : enP wn = enP (en.getD a enD)) (h2 : enS wn = enS (en.getD a enD)) (h3 : enL wn = enL (en.getD a enD)) : lawA σ (en.set a wn) := by
  refine ⟨fun k hk => ?_, fun k h1 h2 => h.2 k (by rw [List.length_set] at h1; exact h1) h2⟩
  rw [List.length_set] at hk
  rw [en_set ha]
  by_cases c : k = a
  · rw [if_pos c, h1, h2, h3, c]
    exact h.1 a ha
  · rw [if_neg c]
    exact h.1 k hk
theorem hdC_in (f : Nat → Int) : ∀ (d i : Nat), 0 ≤ hdC f d i ∧ hdC f d i ≤ d := by
  intro d
  induction d with
  | zero => intro i; exact ⟨Int.le_refl 0, Int.le_refl 0⟩
  | succ d ih =>
    intro i
    have := ih (i + 1)
    unfold hdC
    split <;> omega
theorem oU_oU (o : Nat → Int) (j : Nat) (y : Int) : oU (oU o j y) j y = oU o j y := by
  funext i
  unfold oU
  split <;> rfl
theorem oU_at (o : Nat → Int) (j : Nat) (y : Int) : oU o j y j = y := by
  unfold oU
  rw [if_pos rfl]
set_option maxRecDepth 8000 in
theorem law_784 (h : LI σ p q w) (hY : Y < 2 ^ 28) (ht : t < 3) (K : jnK Ls N q tn tu Y t e x d post) : Tr Ls N 364 784 (lwD p q w tn tu Y t e x d v16 v17 v18 v19 v20) [] σ post := by
  obtain ⟨B, M, ds, an, tx, D3, o3, R3, hd, en, bf, ws, rs, rd, PA, PB, hh, ww, h, ⟨hds, hrd, hrs, htx, hA, h12, h10⟩, hp, hq, hw⟩ := h
  have d3 : Y / 2 ^ 3 ≤ Y := Nat.div_le_self _ _
  have d6 : Y / 2 ^ 6 ≤ Y := Nat.div_le_self _ _
  have m3 : Y / 2 ^ 3 % 3 < 3 := Nat.mod_lt _ (by decide)
  iterate 2 (refine tr_mv rfl (fun _ => rfl) ?_)
  refine tr_shrn (a := Y) (p := 3) (by omega) (by decide) rfl ?_
  iterate 1 (refine tr_mv rfl (fun _ => rfl) ?_)
  refine tr_remn (a := Y / 2 ^ 3) (b := 3) (by omega) (by omega) rfl ?_
  generalize Y / 2 ^ 3 % 3 = j at *
  iterate 3 (refine tr_mv rfl (fun _ => rfl) ?_)
  refine tr_shrn (a := Y) (p := 6) (by omega) (by decide) rfl ?_
  iterate 1 (refine tr_mv rfl (fun _ => rfl) ?_)
  refine tr_and1 (a := Y / 2 ^ 6) (by omega) rfl ?_
  have key : ∀ y v : Int, v = y → (y = 0 ∨ y = 1) → Tr Ls N 364 808 (lwD p q w tn tu Y t e x d (some (mI (j : Int))) v17 v18 v19 v20) [mI v] σ post := by
    intro y v hv hy
    subst hv
    iterate 5 (refine tr_mv rfl (fun _ => rfl) ?_)
    refine tr_vc (q := 2) rfl ⟨by decide, by decide +kernel⟩ rfl rfl rfl (q_135 h ht m3 hy (fun σ1 h1 k1 => ?_))
    iterate 5 (refine tr_mv rfl (fun _ => rfl) ?_)
    refine tr_vc (q := 2) rfl ⟨by decide, by decide +kernel⟩ rfl rfl rfl (q_135 h1 ht m3 hy (fun σ2 h2 k2 => ?_))
    have e1 : b2 (upf o3 t (oU (o3 t) j v) t j = 1) = v := by
      rw [upf_same, oU_at]
      rcases hy with g | g <;> subst g <;> decide
    rw [e1]
    iterate 1 (refine tr_mv rfl (fun _ => rfl) ?_)
    refine tr_cmp2 rfl (m32_of (by omega)) (m32_of (by omega)) (fun c3 => absurd rfl c3) (fun c3 => ?_)
    iterate 2 (refine tr_mv rfl (fun _ => rfl) ?_)
    refine tr_vc (q := 2) rfl ⟨by decide, by decide +kernel⟩ rfl rfl rfl (q_162 h2 ht (fun σ3 h3 k3 => ?_))
    have e2 : (dif (ci (ordE tx en (D3 t) (upf (upf o3 t (oU (o3 t) j v)) t (oU (upf o3 t (oU (o3 t) j v) t) j v) t) t)) (ci (upf (upf bf t (ordE tx en (D3 t) (o3 t) t)) t (ordE tx en (D3 t) (upf o3 t (oU (o3 t) j v) t) t) t)) (upf (upf bf t (ordE tx en (D3 t) (o3 t) t)) t (ordE tx en (D3 t) (upf o3 t (oU (o3 t) j v) t) t) t).length : Int) = 0 := by
      rw [upf_same, upf_same, upf_same, oU_oU, dif_same]
      rfl
    rw [e2]
    have hfin := fun v16 v17 v18 v19 v20 => K σ3 p q w v16 v17 v18 v19 v20 (Nat.le_refl _) ⟨_, _, _, _, _, _, _, _, _, _, _, _, _, _, _, _, _, _, h3, ⟨hds, hrd, hrs, htx, hA.of ((k1.tr k2).tr k3), h12, h10⟩, hp, hq, hw⟩
    have hb := b2_in (o3 t j = 1)
    iterate 2 (refine tr_mv rfl (fun _ => rfl) ?_)
    refine tr_if2 rfl (m32_of (by omega)) (fun c4 => ?_) (fun c4 => ?_)
    · iterate 4 (refine tr_mv rfl (fun _ => rfl) ?_)
      exact hfin _ _ _ _ _
    · iterate 1 (refine tr_mv rfl (fun _ => rfl) ?_)
      refine tr_if2 rfl (m32_of (by omega)) (fun c5 => ?_) (fun c5 => ?_)
      · exfalso
        omega
      iterate 4 (refine tr_mv rfl (fun _ => rfl) ?_)
      exact hfin _ _ _ _ _
  iterate 1 (refine tr_mv rfl (fun _ => rfl) ?_)
  refine tr_cmp2 rfl (m32_of (by omega)) (m32_of (by omega)) (fun c1 => ?_) (fun c1 => ?_)
  · iterate 1 (refine tr_mv rfl (fun _ => rfl) ?_)
    exact key 0 0 rfl (Or.inl rfl)
  · iterate 2 (refine tr_mv rfl (fun _ => rfl) ?_)
    exact key 1 1 rfl (Or.inr rfl)
set_option maxRecDepth 8000 in
theorem law_1098 (h : LI σ p q w) (hY : Y < 2 ^ 28) (K : jnK Ls N q tn tu Y t e x d post) : Tr Ls N 364 1098 (lwD p q w tn tu Y t e x d v16 v17 v18 v19 v20) [] σ post := by
  obtain ⟨B, M, ds, an, tx, D3, o3, R3, hd, en, bf, ws, rs, rd, PA, PB, hh, ww, h, ⟨hds, hrd, hrs, htx, hA, h12, h10⟩, hp, hq, hw⟩ := h
  have d2 : Y / 2 ^ 2 ≤ Y := Nat.div_le_self _ _
  have d6 : Y / 2 ^ 6 ≤ Y := Nat.div_le_self _ _
  have m2 : Y / 2 ^ 2 % 12 < 12 := Nat.mod_lt _ (by decide)
  iterate 3 (refine tr_mv rfl (fun _ => rfl) ?_)
  refine tr_shrn (a := Y) (p := 2) (by omega) (by decide) rfl ?_
  iterate 1 (refine tr_mv rfl (fun _ => rfl) ?_)
  refine tr_remn (a := Y / 2 ^ 2) (b := 12) (by omega) (by omega) rfl ?_
  generalize Y / 2 ^ 2 % 12 = j at *
  iterate 2 (refine tr_mv rfl (fun _ => rfl) ?_)
  refine tr_shrn (a := Y) (p := 6) (by omega) (by decide) rfl ?_
  iterate 1 (refine tr_mv rfl (fun _ => rfl) ?_)
  refine tr_andm (m := 3) (by decide) rfl (fun s hs => ?_)
  have key : ∀ y v : Int, v = y → (y = 0 ∨ y = 1) → Tr Ls N 364 1121 (lwD p q w tn tu Y t e x d v16 v17 v18 v19 v20) [mI v, mI (j : Int), mP (some 2)] σ post := by
    intro y v hv hy
    subst hv
    refine tr_vc (q := 2) rfl ⟨by decide, by decide +kernel⟩ rfl rfl rfl (q_136 h m2 hy (fun σ1 h1 k1 => ?_))
    have h9 := hdC_in (hdU hd j v) 12 0
    iterate 2 (refine tr_mv rfl (fun _ => rfl) ?_)
    refine tr_if2 rfl (m32_of (by omega)) (fun c1 => ?_) (fun c1 => ?_)
    · exfalso
      omega
    iterate 2 (refine tr_mv rfl (fun _ => rfl) ?_)
    refine tr_cmp2 rfl (m32_of (by omega)) (m32_of (by omega)) (fun c2 => ?_) (fun c2 => ?_)
    · exfalso
      omega
    iterate 4 (refine tr_mv rfl (fun _ => rfl) ?_)
    exact K σ1 p q w _ _ _ _ _ (Nat.le_refl _) ⟨_, _, _, _, _, _, _, _, _, _, _, _, _, _, _, _, _, _, h1, ⟨hds, hrd, hrs, htx, hA.of k1, h12, h10⟩, hp, hq, hw⟩
  refine tr_if2 rfl (m32_of (by omega)) (fun c1 => ?_) (fun c1 => ?_)
  · iterate 1 (refine tr_mv rfl (fun _ => rfl) ?_)
    exact key 0 0 rfl (Or.inl rfl)
  · iterate 2 (refine tr_mv rfl (fun _ => rfl) ?_)
    exact key 1 1 rfl (Or.inr rfl)
set_option maxRecDepth 8000 in
theorem law_1448 (h : LI σ p q w) (hY : Y < 2 ^ 28) (hp0 : 0 < p) (hw0 : w < 10) (K : jnK Ls N q tn tu Y t e x d post) : Tr Ls N 364 1448 (lwD p q w tn tu Y t e x d v16 v17 v18 v19 v20) [] σ post := by
  obtain ⟨B, M, ds, an, tx, D3, o3, R3, hd, en, bf, ws, rs, rd, PA, PB, hh, ww, h, ⟨hds, hrd, hrs, htx, hA, h12, h10⟩, hp, hq, hw⟩ := h
  have hl := h.1.lens
  have d2 : Y / 2 ^ 2 ≤ Y := Nat.div_le_self _ _
  have m2 : Y / 2 ^ 2 % p < p := Nat.mod_lt _ hp0
  iterate 3 (refine tr_mv rfl (fun _ => rfl) ?_)
  refine tr_shrn (a := Y) (p := 2) (by omega) (by decide) rfl ?_
  iterate 1 (refine tr_mv rfl (fun _ => rfl) ?_)
  refine tr_remn (a := Y / 2 ^ 2) (b := p) (by omega) (by omega) rfl ?_
  generalize Y / 2 ^ 2 % p = j at *
  refine tr_vc (q := 2) rfl ⟨by decide, by decide +kernel⟩ rfl rfl rfl (q_141 h (by omega) (by omega) (fun σ1 h1 k1 => ?_))
  rw [hw]
  iterate 1 (refine tr_mv rfl (fun _ => rfl) ?_)
  refine tr_cmp2 rfl (m32_of (by omega)) (m32_of (by omega)) (fun c3 => absurd rfl c3) (fun c3 => ?_)
  iterate 5 (refine tr_mv rfl (fun _ => rfl) ?_)
  have := K σ1 p q (w + 1) v16 v17 v18 v19 v20 (Nat.le_refl _) ⟨_, _, _, _, _, _, _, _, _, _, _, _, _, _, _, _, _, _, h1, ⟨hds, hrd, fun r hr => ?_, htx, hA.of k1, h12, by rw [List.length_append, List.length_singleton]; omega⟩, hp, hq, by rw [List.length_append, List.length_singleton, hw]⟩
  · unfold lwD lwV at this
    rw [show ((w + 1 : Nat) : Int) = (w : Int) + 1 by omega] at this
    exact this
  · rcases List.mem_append.mp hr with g | g
    · exact hrs r g
    · exact List.mem_singleton.mp g
set_option maxRecDepth 8000 in
theorem law_1484 (h : LI σ p q w) (hY : Y < 2 ^ 28) (K : jnK Ls N q tn tu Y t e x d post) : Tr Ls N 364 1484 (lwD p q w tn tu Y t e x d v16 v17 v18 v19 v20) [] σ post := by
  obtain ⟨B, M, ds, an, tx, D3, o3, R3, hd, en, bf, ws, rs, rd, PA, PB, hh, ww, h, ⟨hds, hrd, hrs, htx, hA, h12, h10⟩, hp, hq, hw⟩ := h
  have d2 : Y / 2 ^ 2 ≤ Y := Nat.div_le_self _ _
  have d7 : Y / 2 ^ 7 ≤ Y := Nat.div_le_self _ _
  have m2 : Y / 2 ^ 2 % 20 < 20 := Nat.mod_lt _ (by decide)
  have m7 : Y / 2 ^ 7 % 12 < 12 := Nat.mod_lt _ (by decide)
  have hws := h.1.hws.2
  iterate 3 (refine tr_mv rfl (fun _ => rfl) ?_)
  refine tr_shrn (a := Y) (p := 2) (by omega) (by decide) rfl ?_
  iterate 1 (refine tr_mv rfl (fun _ => rfl) ?_)
  refine tr_remn (a := Y / 2 ^ 2) (b := 20) (by omega) (by omega) rfl ?_
  iterate 7 (refine tr_mv rfl (fun _ => rfl) ?_)
  refine tr_shrn (a := Y) (p := 7) (by omega) (by decide) rfl ?_
  iterate 1 (refine tr_mv rfl (fun _ => rfl) ?_)
  refine tr_remn (a := Y / 2 ^ 7) (b := 12) (by omega) (by omega) rfl ?_
  iterate 1 (refine tr_mv rfl (fun _ => rfl) ?_)
  refine tr_vc (q := 2) rfl ⟨by decide, by decide +kernel⟩ rfl rfl rfl (q_146 h (by omega) (by omega) (fun σ1 h1 k1 => ?_))
  iterate 1 (refine tr_mv rfl (fun _ => rfl) ?_)
  refine tr_cmp2 rfl (m32_of (by omega)) (m32_of (by omega)) (fun c1 => ?_) (fun c1 => ?_)
  · exfalso
    omega
  iterate 5 (refine tr_mv rfl (fun _ => rfl) ?_)
  refine tr_shrn (a := Y) (p := 7) (by omega) (by decide) rfl ?_
  iterate 1 (refine tr_mv rfl (fun _ => rfl) ?_)
  refine tr_remn (a := Y / 2 ^ 7) (b := 12) (by omega) (by omega) rfl ?_
  iterate 1 (refine tr_mv rfl (fun _ => rfl) ?_)
  refine tr_vc (q := 2) rfl ⟨by decide, by decide +kernel⟩ rfl rfl rfl (q_146 h1 (by omega) (by omega) (fun σ2 h2 k2 => ?_))
  iterate 1 (refine tr_mv rfl (fun _ => rfl) ?_)
  refine tr_cmp2 rfl (m32_of (by omega)) (m32_of (by omega)) (fun c3 => absurd rfl c3) (fun c3 => ?_)
  iterate 3 (refine tr_mv rfl (fun _ => rfl) ?_)
  exact K σ2 p q w _ _ _ _ _ (Nat.le_refl _) ⟨_, _, _, _, _, _, _, _, _, _, _, _, _, _, _, _, _, _, h2, ⟨hds, hrd, hrs, htx, hA.of (k1.tr k2), h12, h10⟩, hp, hq, hw⟩
set_option maxRecDepth 8000 in
theorem law_1024 (h : LI σ p q w) (hY : Y < 2 ^ 28) (he : e < q) (K : jnK Ls N q tn tu Y t e x d post) : Tr Ls (N + 1) 364 1024 (lwD p q w tn tu Y t e x d v16 v17 v18 v19 v20) [] σ post := by
  have h0 := h
  obtain ⟨B, M, ds, an, tx, D3, o3, R3, hd, en, bf, ws, rs, rd, PA, PB, hh, ww, h, ⟨hds, hrd, hrs, htx, hA, h12, h10⟩, hp, hq, hw⟩ := h
  have d7 : Y / 2 ^ 7 ≤ Y := Nat.div_le_self _ _
  have d9 : Y / 2 ^ 9 ≤ Y := Nat.div_le_self _ _
  have m7 : Y / 2 ^ 7 % 3 < 3 := Nat.mod_lt _ (by decide)
  have m9 : Y / 2 ^ 9 % 4 < 4 := Nat.mod_lt _ (by decide)
  have hK := (h.1.ens.2.1 _ (enD_mem (show e < en.length by omega))).2.2.1
  iterate 5 (refine tr_mv rfl (fun _ => rfl) ?_)
  refine tr_shrn (a := Y) (p := 7) (by omega) (by decide) rfl ?_
  iterate 1 (refine tr_mv rfl (fun _ => rfl) ?_)
  refine tr_remn (a := Y / 2 ^ 7) (b := 3) (by omega) (by omega) rfl ?_
  iterate 2 (refine tr_mv rfl (fun _ => rfl) ?_)
  refine tr_shrn (a := Y) (p := 7) (by omega) (by decide) rfl ?_
  iterate 1 (refine tr_mv rfl (fun _ => rfl) ?_)
  refine tr_remn (a := Y / 2 ^ 7) (b := 3) (by omega) (by omega) rfl ?_
  have key : ∀ y : Int, in32 y → Tr Ls (N + 1) 364 1058 (lwD p q w tn tu Y t e x d v16 v17 v18 v19 v20) [mI y, mI ((Y / 2 ^ 7 % 3 : Nat) : Int), mI (e : Int), mI 5, mP (some 2)] σ post := by
    intro y hy
    refine tr_stat1 rfl rfl rfl (p_5 (N := 0) h (by omega) (by omega) hy ?_ (fun σ1 h1 k1 => ?_))
    · iterate 10 (refine tr_mv rfl (fun _ => rfl) ?_)
      exact K σ p q w _ _ _ _ _ (Nat.le_refl _) h0
    · iterate 2 (refine tr_mv rfl (fun _ => rfl) ?_)
      refine tr_if2 rfl (m32_of (by omega)) (fun c1 => ?_) (fun c1 => ?_)
      · exfalso
        omega
      iterate 2 (refine tr_mv rfl (fun _ => rfl) ?_)
      refine tr_cmp2 rfl (m32_of (by omega)) (m32_of (by omega)) (fun c2 => ?_) (fun c2 => ?_)
      · iterate 4 (refine tr_mv rfl (fun _ => rfl) ?_)
        exact K σ1 p q w _ _ _ _ _ (Nat.le_refl _) ⟨_, _, _, _, _, _, _, _, _, _, _, _, _, _, _, _, _, _, h1, ⟨hds, hrd, hrs, htx, (hA.of k1).set (by omega) rfl rfl rfl, by rw [List.length_set]; exact h12, h10⟩, hp, by rw [List.length_set]; exact hq, hw⟩
      · exfalso
        omega
  refine tr_if2 rfl (m32_of (by omega)) (fun c1 => ?_) (fun c1 => ?_)
  · iterate 3 (refine tr_mv rfl (fun _ => rfl) ?_)
    refine tr_shrn (a := Y) (p := 9) (by omega) (by decide) rfl ?_
    iterate 1 (refine tr_mv rfl (fun _ => rfl) ?_)
    refine tr_remn (a := Y / 2 ^ 9) (b := 4) (by omega) (by omega) rfl ?_
    iterate 1 (refine tr_mv rfl (fun _ => rfl) ?_)
    exact key _ (by omega)
  · iterate 2 (refine tr_mv rfl (fun _ => rfl) ?_)
    exact key _ (by omega)
end DEED4
