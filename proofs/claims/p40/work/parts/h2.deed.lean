/-! The law's deeds: composing, texts. -/
/-- the same with signs in the draft, and how many rules a tailoring has -/
def LDr (σ : Sg) (p q w t ru : Nat) (ds : List Int) : Prop := ∃ (B M : Int → Int) (an : List Int) (tx : List (List Int)) (D3 : Nat → TD) (o3 : Nat → Nat → Int) (R3 : Nat → RuT) (hd : Nat → Int) (en : List EnT) (bf : Nat → List Nat) (ws rs : List Int) (rd : Nat → List Int) (PA PB : List Int) (hh ww : Int), StC σ B M ds an tx D3 o3 R3 hd en bf ws rs rd PA PB hh ww ∧ ((R3 t).length = ru ∧ (∀ i, rd i = []) ∧ (∀ r ∈ rs, r = -1) ∧ (∀ t ∈ tx, okT t) ∧ lawA σ en ∧ en.length ≤ 12 ∧ ws.length ≤ 10) ∧ tx.length = p ∧ en.length = q ∧ ws.length = w
abbrev lwD (p q w tn tu Y t e : Nat) (x d : Int) (v16 v17 v18 v19 v20 : Option mV) : mLs := lwV p q w tn tu (some (mI x)) (some (mI (Y : Int))) (some (mI d)) (some (mI (t : Int))) (some (mI (e : Int))) v16 v17 v18 v19 v20
/-- goes on behind a deed -/
abbrev jnK (Ls N q tn tu Y t e : Nat) (x d : Int) (post : tP) : Prop := ∀ (σ' : Sg) (p' q' w' : Nat) (v16 v17 v18 v19 v20 : Option mV), q ≤ q' → LI σ' p' q' w' → Tr Ls N 364 1543 (lwD p' q' w' tn tu Y t e x d v16 v17 v18 v19 v20) [] σ' post
section DEED
variable {Ls N N1 k pc n a b c p q w tn tu Y t e X j ru m : Nat} {L : mLs} {r : List mV} {σ σ' σ0 σ1 σ2 : Sg} {post : tP} {i x y z v d : Int} {B M : Int → Int} {ds an dA A A2 : List Int} {ws rs PA PB : List Int} {tx : List (List Int)} {D3 : Nat → TD} {o3 : Nat → Nat → Int} {R3 : Nat → RuT} {hd : Nat → Int} {en : List EnT} {bf : Nat → List Nat} {rd : Nat → List Int} {hh ww : Int} {v11 v12 v13 v14 v15 v16 v17 v18 v19 v20 : Option mV}
theorem LI.dr (h : LI σ p q w) (t : Nat) : ∃ ru, LDr σ p q w t ru [] := by
  obtain ⟨B, M, ds, an, tx, D3, o3, R3, hd, en, bf, ws, rs, rd, PA, PB, hh, ww, h, ⟨hds, hrd, hrs, htx, hA, h12, h10⟩, hp, hq, hw⟩ := h
  subst hds
  exact ⟨_, _, _, _, _, _, _, _, _, _, _, _, _, _, _, _, _, _, h, ⟨rfl, hrd, hrs, htx, hA, h12, h10⟩, hp, hq, hw⟩
theorem LDr.li (h : LDr σ p q w t ru []) : LI σ p q w := by
  obtain ⟨B, M, an, tx, D3, o3, R3, hd, en, bf, ws, rs, rd, PA, PB, hh, ww, h, ⟨hru, hrd, hrs, htx, hA, h12, h10⟩, hp, hq, hw⟩ := h
  exact ⟨_, _, _, _, _, _, _, _, _, _, _, _, _, _, _, _, _, _, h, ⟨rfl, hrd, hrs, htx, hA, h12, h10⟩, hp, hq, hw⟩
theorem law_sg (h : LDr σ p q w t ru ds) (hn : ds.length < 10) (hx : in32 x) (K1 : ¬ (0 ≤ x ∧ x < 40) → post (.inl (some (mI (-11)))) σ) (K2 : ∀ σ', LDr σ' p q w t ru (ds ++ [x]) → post (.inl (some (mI ((ds.length : Int) + 1)))) σ') : Tr Ls (N + 1) 332 0 [some (mP (some 2)), some (mI 0), some (mI x), some (mI y), some (mI z), none] [] σ post := by
  obtain ⟨B, M, an, tx, D3, o3, R3, hd, en, bf, ws, rs, rd, PA, PB, hh, ww, h, ⟨hru, hrd, hrs, htx, hA, h12, h10⟩, hp, hq, hw⟩ := h
  refine p_0 h hx (fun g => K1 (fun g2 => g (Or.inl g2))) (fun _ g => by omega) (fun σ' g1 g2 h' k' => K2 σ' ⟨_, _, _, _, _, _, _, _, _, _, _, _, _, _, _, _, _, h', ⟨hru, hrd, hrs, htx, hA.of k', h12, h10⟩, hp, hq, hw⟩)
theorem cnB_le (B : Int → Int) : ∀ n, cnB B n ≤ n := by
  intro n
  induction n with
  | zero => exact Nat.le_refl 0
  | succ n ih =>
    unfold cnB
    split <;> omega
set_option maxRecDepth 8000 in
theorem law_213 (h : LI σ p q w) (hY : Y < 2 ^ 28) (K : jnK Ls N q tn tu Y t e x d post) : Tr Ls (N + 1) 364 213 (lwD p q w tn tu Y t e x d v16 v17 v18 v19 v20) [] σ post := by
  have h0 := h
  obtain ⟨B, M, ds, an, tx, D3, o3, R3, hd, en, bf, ws, rs, rd, PA, PB, hh, ww, h, ⟨hds, hrd, hrs, htx, hA, h12, h10⟩, hp, hq, hw⟩ := h
  have m1 : Y / 2 ^ 2 % 8 < 8 := Nat.mod_lt _ (by decide)
  have m2 : Y / 2 ^ 6 % 4 < 4 := Nat.mod_lt _ (by decide)
  have m3 : Y / 2 ^ 6 % 8 < 8 := Nat.mod_lt _ (by decide)
  have m4 : Y / 2 ^ 9 % 4 < 4 := Nat.mod_lt _ (by decide)
  have d2 : Y / 2 ^ 2 ≤ Y := Nat.div_le_self _ _
  have d5 : Y / 2 ^ 5 ≤ Y := Nat.div_le_self _ _
  have d6 : Y / 2 ^ 6 ≤ Y := Nat.div_le_self _ _
  have d9 : Y / 2 ^ 9 ≤ Y := Nat.div_le_self _ _
  iterate 5 (refine tr_mv rfl (fun _ => rfl) ?_)
  refine tr_shrn (a := Y) (p := 2) (by omega) (by decide) rfl ?_
  iterate 1 (refine tr_mv rfl (fun _ => rfl) ?_)
  refine tr_remn (a := Y / 2 ^ 2) (b := 8) (by omega) (by omega) rfl ?_
  iterate 3 (refine tr_mv rfl (fun _ => rfl) ?_)
  refine tr_shrn (a := Y) (p := 5) (by omega) (by decide) rfl ?_
  iterate 1 (refine tr_mv rfl (fun _ => rfl) ?_)
  refine tr_and1 (a := Y / 2 ^ 5) (by omega) rfl ?_
  have key : ∀ b : Int, in32 b → Tr Ls (N + 1) 364 255 (lwD p q w tn tu Y t e x d v16 v17 v18 v19 v20) [mI b, mI (40 + ((Y / 2 ^ 2 % 8 : Nat) : Int)), mI 1, mP (some 2)] σ post := by
    intro b hb
    iterate 3 (refine tr_mv rfl (fun _ => rfl) ?_)
    refine tr_shrn (a := Y) (p := 9) (by omega) (by decide) rfl ?_
    iterate 1 (refine tr_mv rfl (fun _ => rfl) ?_)
    refine tr_remn (a := Y / 2 ^ 9) (b := 4) (by omega) (by omega) rfl ?_
    iterate 1 (refine tr_mv rfl (fun _ => rfl) ?_)
    refine tr_stat1 rfl rfl rfl (p_1 (N := 0) h (by omega) hb (by omega) ?_ ?_ (fun σ' g1 g2 g3 h' k' => ?_))
    · iterate 8 (refine tr_mv rfl (fun _ => rfl) ?_)
      exact K σ p q w _ _ _ _ _ (Nat.le_refl _) h0
    · iterate 11 (refine tr_mv rfl (fun _ => rfl) ?_)
      exact K σ p q w _ _ _ _ _ (Nat.le_refl _) h0
    · have e8 := cnB_up g1.1.1 g2 (cmOk_x h.1.1 g1).2 8
      rw [if_pos (by have := g1.1; omega)] at e8
      have e9 := cnB_le (fUp B (40 + ((Y / 2 ^ 2 % 8 : Nat) : Int)) b) 8
      iterate 3 (refine tr_mv rfl (fun _ => rfl) ?_)
      refine tr_cmp2 rfl (m32_of (by omega)) (m32_of (by omega)) (fun c1 => ?_) (fun c1 => ?_)
      · exfalso
        omega
      iterate 2 (refine tr_mv rfl (fun _ => rfl) ?_)
      refine tr_cmp2 rfl (m32_of (by omega)) (m32_of (by omega)) (fun c2 => ?_) (fun c2 => ?_)
      · exfalso
        omega
      iterate 1 (refine tr_mv rfl (fun _ => rfl) ?_)
      refine tr_if2 rfl (m32_of (by omega)) (fun c3 => ?_) (fun c3 => ?_)
      · exfalso
        omega
      iterate 2 (refine tr_mv rfl (fun _ => rfl) ?_)
      refine tr_cmp2 rfl (m32_of (by omega)) (m32_of (by omega)) (fun c4 => ?_) (fun c4 => ?_)
      · exfalso
        omega
      iterate 4 (refine tr_mv rfl (fun _ => rfl) ?_)
      exact K σ' p q w _ _ _ _ _ (Nat.le_refl _) ⟨_, _, _, _, _, _, _, _, _, _, _, _, _, _, _, _, _, _, h', ⟨hds, hrd, hrs, htx, hA.of k', h12, h10⟩, hp, hq, hw⟩
  refine tr_if2 rfl (m32_of (by omega)) (fun c1 => ?_) (fun c1 => ?_)
  · iterate 3 (refine tr_mv rfl (fun _ => rfl) ?_)
    refine tr_shrn (a := Y) (p := 6) (by omega) (by decide) rfl ?_
    iterate 1 (refine tr_mv rfl (fun _ => rfl) ?_)
    refine tr_remn (a := Y / 2 ^ 6) (b := 8) (by omega) (by omega) rfl ?_
    iterate 1 (refine tr_mv rfl (fun _ => rfl) ?_)
    exact key _ (by omega)
  · iterate 2 (refine tr_mv rfl (fun _ => rfl) ?_)
    refine tr_shrn (a := Y) (p := 6) (by omega) (by decide) rfl ?_
    iterate 1 (refine tr_mv rfl (fun _ => rfl) ?_)
    refine tr_remn (a := Y / 2 ^ 6) (b := 4) (by omega) (by omega) rfl ?_
    iterate 1 (refine tr_mv rfl (fun _ => rfl) ?_)
    exact key _ (by omega)
set_option maxRecDepth 8000 in
/-- the draft becomes a text, or there was none -/
theorem law_479 (h : LDr σ p q w t ru ds) (hp : p < 30) (K : jnK Ls N q tn tu Y t e x d post) : Tr Ls (N + 1) 364 479 (lwD p q w tn tu Y t e x d (some (mI z)) (some (mI (ds.length : Int))) (some (mI i)) v19 v20) [] σ post := by
  obtain ⟨B, M, an, tx, D3, o3, R3, hd, en, bf, ws, rs, rd, PA, PB, hh, ww, h, ⟨hru, hrd, hrs, htx, hA, h12, h10⟩, hp2, hq, hw⟩ := h
  have h10d : ds.length ≤ 10 := h.1.2.1.1
  iterate 5 (refine tr_mv rfl (fun _ => rfl) ?_)
  refine tr_stat1 rfl rfl rfl (p_12 (N := 0) h (fun g => ?_) (fun σ' g1 g2 h' k' => ?_))
  · have e : ds = [] := g.elim id (fun g => by omega)
    subst e
    iterate 18 (refine tr_mv rfl (fun _ => rfl) ?_)
    have := K σ p q w (some (mI z)) (some (mI 0)) (some (mI (-13))) v19 v20 (Nat.le_refl _) ⟨_, _, _, _, _, _, _, _, _, _, _, _, _, _, _, _, _, _, h, ⟨rfl, hrd, hrs, htx, hA, h12, h10⟩, hp2, hq, hw⟩
    unfold lwD lwV at this
    rw [show (p : Int) = (p : Int) + 0 by omega] at this
    exact this
  · have hl : 0 < ds.length := List.length_pos_iff.mpr g1
    rw [hp2]
    iterate 5 (refine tr_mv rfl (fun _ => rfl) ?_)
    refine tr_if2 rfl (m32_of (by omega)) (fun c1 => ?_) (fun c1 => ?_)
    · exfalso
      omega
    iterate 2 (refine tr_mv rfl (fun _ => rfl) ?_)
    refine tr_cmp2 rfl (m32_of (by omega)) (m32_of (by omega)) (fun c3 => absurd rfl c3) (fun c3 => ?_)
    iterate 5 (refine tr_mv rfl (fun _ => rfl) ?_)
    refine tr_if2 rfl (m32_of (by omega)) (fun c2 => ?_) (fun c2 => ?_)
    · exfalso
      omega
    iterate 5 (refine tr_mv rfl (fun _ => rfl) ?_)
    have := K σ' (p + 1) q w (some (mI z)) (some (mI (ds.length : Int))) (some (mI (p : Int))) v19 v20 (Nat.le_refl _) ⟨_, _, _, _, _, _, _, _, _, _, _, _, _, _, _, _, _, _, h', ⟨rfl, hrd, hrs, fun t ht => ?_, hA.of k', h12, h10⟩, by rw [List.length_append, hp2]; rfl, hq, hw⟩
    · unfold lwD lwV at this
      rw [show ((p + 1 : Nat) : Int) = (p : Int) + 1 by omega] at this
      exact this
    · rcases List.mem_append.mp ht with ht | ht
      · exact htx t ht
      · rw [List.mem_singleton.mp ht]
        exact okT_apA h.1.1.1 h.1.2.1.2 h10d
end DEED
