/-! The law's isLocated. -/
section LOC2
variable {Ls N k pc n a b d X j : Nat} {σ σ' σ0 σ1 σ2 : Sg} {post : tP} {i x y z v w s c rr pp : Int} {B M : Int → Int} {ds an dA t A A2 : List Int} {ws rs PA PB : List Int} {tx : List (List Int)} {D3 : Nat → TD} {o3 : Nat → Nat → Int} {R3 : Nat → RuT} {hd : Nat → Int} {en : List EnT} {bf : Nat → List Nat} {rd : Nat → List Int} {hh ww : Int} {v3 v4 v5 v6 v7 v8 v9 v10 : Option mV} {rg gs l acc : List Gp} {g : Gp} {LL MM : List Int}
theorem addR_ne (rg : List Gp) (c : Int) : addR rg c ≠ [] := by
  match rg with
  | [] => exact List.cons_ne_nil _ _
  | (s, f, l) :: r =>
    unfold addR
    dsimp only
    split <;> exact List.cons_ne_nil _ _
theorem gdrop {l : List Gp} (h : k < l.length) : l.drop k = l.getD k (0, 0, 0) :: l.drop (k + 1) := by
  rw [List.drop_eq_getElem_cons h, List.getD_eq_getElem?_getD, List.getElem?_eq_getElem h]
  rfl
theorem addRs_ne : ∀ (L : List Int) (rg : List Gp), rg ≠ [] → L.foldl addR rg ≠ [] := by
  intro L
  induction L with
  | nil => intro rg h; exact h
  | cons c L ih => intro rg _; exact ih _ (addR_ne rg c)
theorem jnA_ne : ∀ (d : Nat) (l : List Gp), l ≠ [] → jnA d l ≠ [] := by
  intro d
  match d with
  | 0 => intro l h; exact h
  | d + 1 =>
    intro l h
    cases e : jn1 l with
    | nil => exact absurd e ((jn1_len l).2 h)
    | cons g gs =>
      rw [jnA_cons e]
      exact List.cons_ne_nil _ _
theorem grpL_pos (LL : List Int) : 0 < (grpL LL).length ↔ 0 < LL.length := by
  constructor
  · intro h
    match LL, h with
    | [], h => exact h
    | c :: L, _ => exact Nat.succ_pos _
  · intro h
    match LL, h with
    | c :: L, _ =>
      refine List.length_pos_iff.mpr ?_
      unfold grpL
      refine jnA_ne _ _ ?_
      rw [Ne, List.reverse_eq_nil_iff]
      exact addRs_ne L _ (addR_ne [] c)
theorem gch_drop : ∀ (gs : List Gp) (r p : Int) (k : Nat), gch r p gs → k < gs.length → ∃ r' p', gch r' p' (gs.drop k) ∧ ((k = 0 ∧ r' = r ∧ p' = p) ∨ (0 < k ∧ r' = rkL (gs.getD (k - 1) (0, 0, 0)).1 ∧ p' = (gs.getD (k - 1) (0, 0, 0)).2.2)) := by
  intro gs
  induction gs with
  | nil => intro r p k _ hk; simp at hk
  | cons g gs ih =>
    intro r p k h hk
    match k with
    | 0 => exact ⟨r, p, h, Or.inl ⟨rfl, rfl, rfl⟩⟩
    | k + 1 =>
      obtain ⟨r', p', h1, h2⟩ := ih _ _ k h.2.2 (by rw [List.length_cons] at hk; omega)
      refine ⟨r', p', h1, Or.inr ⟨Nat.succ_pos _, ?_⟩⟩
      match k, h2 with
      | 0, h2 =>
        rcases h2 with h2 | h2
        · exact h2.2
        · exact absurd h2.1 (Nat.lt_irrefl _)
      | k + 1, h2 =>
        rcases h2 with h2 | h2
        · exact absurd h2.1 (Nat.succ_ne_zero _)
        · exact h2.2
theorem s_337_end (hk : k ≤ n) (hk2 : 0 < k ↔ 0 < n) (hn : n ≤ 10) (K : post (.inl (some (mI 1))) σ) : Tr Ls N 337 146 [some (mP (some 2)), some (mI x), some (mI (n : Int)), v3, v4, some (mI (k : Int)), some (mI 1), v7, v8, v9] [] σ post := by
  iterate 4 (refine tr_mv rfl (fun _ => rfl) ?_)
  refine tr_cmp2 rfl (m32_of (by omega)) (m32_of (by omega)) (fun c1 => ?_) (fun c1 => ?_)
  · exfalso
    omega
  iterate 1 (refine tr_mv rfl (fun _ => rfl) ?_)
  refine tr_if2 rfl (m32_of (by omega)) (fun c2 => ?_) (fun c2 => ?_)
  · iterate 2 (refine tr_mv rfl (fun _ => rfl) ?_)
    refine tr_if2 rfl (m32_of (by omega)) (fun c3 => ?_) (fun c3 => ?_)
    · iterate 4 (refine tr_mv rfl (fun _ => rfl) ?_)
      exact tr_reti rfl (Or.inr (Or.inr rfl)) K
    · exfalso
      omega
  · iterate 3 (refine tr_mv rfl (fun _ => rfl) ?_)
    refine tr_if2 rfl (m32_of (by omega)) (fun c3 => ?_) (fun c3 => ?_)
    · exfalso
      omega
    · iterate 5 (refine tr_mv rfl (fun _ => rfl) ?_)
      exact tr_reti rfl (Or.inr (Or.inr rfl)) K
/-- one group looked at: at 59, its rank on the stack -/
theorem s_337_rk (hs : 0 ≤ s ∧ s ≤ 3) (K : Tr Ls N 337 57 [some (mP (some 2)), some (mI x), some (mI y), some (mI z), some (mI w), some (mI i), some (mI 1), some (mI c), some (mI s), v9] [mI (rkL s)] σ post) : Tr Ls N 337 36 [some (mP (some 2)), some (mI x), some (mI y), some (mI z), some (mI w), some (mI i), some (mI 1), some (mI c), some (mI s), v9] [] σ post := by
  iterate 2 (refine tr_mv rfl (fun _ => rfl) ?_)
  refine tr_cmp2 rfl (m32_of (by omega)) (m32_of (by omega)) (fun c1 => ?_) (fun c1 => ?_)
  · iterate 2 (refine tr_mv rfl (fun _ => rfl) ?_)
    refine tr_cmp2 rfl (m32_of (by omega)) (m32_of (by omega)) (fun c2 => ?_) (fun c2 => ?_)
    · have e : rkL s = 1 := by
        unfold rkL
        rw [if_neg c1, if_neg c2]
      rw [e] at K
      iterate 1 (refine tr_mv rfl (fun _ => rfl) ?_)
      exact K
    · have e : rkL s = 2 := by
        unfold rkL
        rw [if_neg c1, if_pos (Decidable.of_not_not c2)]
      rw [e] at K
      iterate 2 (refine tr_mv rfl (fun _ => rfl) ?_)
      exact K
  · have e : rkL s = 0 := by
      unfold rkL
      rw [if_pos (Decidable.of_not_not c1)]
    rw [e] at K
    iterate 2 (refine tr_mv rfl (fun _ => rfl) ?_)
    exact K
theorem s_337_lp (ha : a < en.length) (hgc : gch (-1) 0 (grpL (enL (en.getD a enD)))) (hn : (grpL (enL (en.getD a enD))).length ≤ n) (hn2 : 0 < (grpL (enL (en.getD a enD))).length ↔ 0 < n) (hn10 : n ≤ 10) (K : ∀ σ', StC σ' B M ds an tx D3 o3 R3 hd en bf ws rs rd PA PB hh ww → kp4 σ0 σ' → post (.inl (some (mI 1))) σ') :
    ∀ (m k : Nat) (r p : Int) (σ : Sg) (v8 v9 : Option mV), StC σ B M ds an tx D3 o3 R3 hd en bf ws rs rd PA PB hh ww → kp4 σ0 σ → m + k = (grpL (enL (en.getD a enD))).length → gch r p ((grpL (enL (en.getD a enD))).drop k) → -1 ≤ r ∧ r ≤ 2 → 0 ≤ p ∧ p ≤ 999 →
    Tr Ls N 337 19 [some (mP (some 2)), some (mI (a : Int)), some (mI (n : Int)), some (mI r), some (mI p), some (mI (k : Int)), some (mI 1), some (mI (if k < (grpL (enL (en.getD a enD))).length then gnum ((grpL (enL (en.getD a enD))).getD k (0, 0, 0)) else -1)), v8, v9] [] σ post := by
  intro m
  induction m with
  | zero =>
    intro k r p σ v8 v9 h hk hm _ _ _
    rw [if_neg (by omega)]
    iterate 2 (refine tr_mv rfl (fun _ => rfl) ?_)
    exact s_337_end (by omega) (by omega) hn10 (K σ h hk)
  | succ m ih =>
    intro k r p σ v8 v9 h hk hm hg hr hp
    have hkl : k < (grpL (enL (en.getD a enD))).length := by omega
    have hdr : (grpL (enL (en.getD a enD))).drop k = (grpL (enL (en.getD a enD))).getD k (0, 0, 0) :: (grpL (enL (en.getD a enD))).drop (k + 1) := gdrop hkl
    rw [hdr] at hg
    rw [if_pos hkl]
    have hnx := fun σ h' k' => ih (k + 1) (rkL ((grpL (enL (en.getD a enD))).getD k (0, 0, 0)).1) ((grpL (enL (en.getD a enD))).getD k (0, 0, 0)).2.2 σ (some (mI ((grpL (enL (en.getD a enD))).getD k (0, 0, 0)).1)) (some (mI (rkL ((grpL (enL (en.getD a enD))).getD k (0, 0, 0)).1))) h' k' (by omega) hg.2.2
    generalize (grpL (enL (en.getD a enD))).getD k (0, 0, 0) = g at *
    obtain ⟨g1, ⟨⟨g2, g2b⟩, g3, g4, g5⟩, g6⟩ := hg
    have hrk := rkL_in g.1
    have e0 : gnum g / 1000000 = g.1 := by
      unfold gnum
      omega
    have e1 : gnum g / 1000 % 1000 = g.2.1 := by
      unfold gnum
      omega
    have e2 : gnum g % 1000 = g.2.2 := by
      unfold gnum
      omega
    have hin : 0 ≤ gnum g ∧ gnum g < 2147483648 := by
      unfold gnum
      omega
    generalize gnum g = c at *
    iterate 1 (refine tr_mv rfl (fun _ => rfl) ?_)
    refine tr_if2 rfl (m32_of (by omega)) (fun c1 => ?_) (fun c1 => ?_)
    · exfalso
      omega
    iterate 4 (refine tr_mv rfl (fun _ => rfl) ?_)
    refine tr_div (y := 1000000) (by omega) (by omega) rfl ?_
    rw [e0]
    iterate 1 (refine tr_mv rfl (fun _ => rfl) ?_)
    refine s_337_rk (by omega) ?_
    iterate 3 (refine tr_mv rfl (fun _ => rfl) ?_)
    have key : ∀ pg : Int, 0 ≤ pg ∧ pg < g.2.1 → Tr Ls N 337 71 [some (mP (some 2)), some (mI (a : Int)), some (mI (n : Int)), some (mI r), some (mI p), some (mI (k : Int)), some (mI 1), some (mI c), some (mI g.1), some (mI (rkL g.1))] [mI pg] σ post := by
      intro pg hpg
      iterate 3 (refine tr_mv rfl (fun _ => rfl) ?_)
      refine tr_cmp2 rfl (m32_of (by omega)) (m32_of (by omega)) (fun c2 => ?_) (fun c2 => ?_)
      · exfalso
        omega
      iterate 2 (refine tr_mv rfl (fun _ => rfl) ?_)
      refine tr_div (y := 1000) (by omega) (by omega) rfl ?_
      iterate 1 (refine tr_mv rfl (fun _ => rfl) ?_)
      refine tr_rem (y := 1000) (by omega) (by omega) rfl ?_
      rw [e1]
      iterate 1 (refine tr_mv rfl (fun _ => rfl) ?_)
      refine tr_cmp2 rfl (m32_of (by omega)) (m32_of (by omega)) (fun c3 => ?_) (fun c3 => ?_)
      · exfalso
        omega
      iterate 2 (refine tr_mv rfl (fun _ => rfl) ?_)
      refine tr_rem (y := 1000) (by omega) (by omega) rfl ?_
      rw [e2]
      iterate 2 (refine tr_mv rfl (fun _ => rfl) ?_)
      refine tr_div (y := 1000) (by omega) (by omega) rfl ?_
      iterate 1 (refine tr_mv rfl (fun _ => rfl) ?_)
      refine tr_rem (y := 1000) (by omega) (by omega) rfl ?_
      rw [e1]
      refine tr_cmp2 rfl (m32_of (by omega)) (m32_of (by omega)) (fun c4 => ?_) (fun c4 => ?_)
      · exfalso
        omega
      iterate 5 (refine tr_mv rfl (fun _ => rfl) ?_)
      refine tr_rem (y := 1000) (by omega) (by omega) rfl ?_
      rw [e2]
      iterate 7 (refine tr_mv rfl (fun _ => rfl) ?_)
      refine tr_vc (q := 2) rfl ⟨by decide, by decide +kernel⟩ rfl rfl rfl (q_159 (j := k + 1) h ha (by omega) (fun σ' h' k' => ?_))
      iterate 2 (refine tr_mv rfl (fun _ => rfl) ?_)
      have := hnx σ' h' (hk.tr k') (by omega) (by omega)
      rw [show ((k + 1 : Nat) : Int) = (k : Int) + 1 by omega] at this
      exact this
    refine tr_cmp2 rfl (m32_of (by omega)) (m32_of (by omega)) (fun c2 => ?_) (fun c2 => ?_)
    · iterate 1 (refine tr_mv rfl (fun _ => rfl) ?_)
      exact key 0 (by omega)
    · iterate 2 (refine tr_mv rfl (fun _ => rfl) ?_)
      exact key p (by omega)
theorem s_337 (h : StC σ B M ds an tx D3 o3 R3 hd en bf ws rs rd PA PB hh ww) (ha : a < en.length) (hn : n = (enL (en.getD a enD)).length) (K : ∀ σ', StC σ' B M ds an tx D3 o3 R3 hd en bf ws rs rd PA PB hh ww → kp4 σ σ' → post (.inl (some (mI 1))) σ') : Tr Ls N 337 0 [some (mP (some 2)), some (mI (a : Int)), some (mI (n : Int)), none, none, none, none, none, none, none] [] σ post := by
  have hlc := h.1.lcs (en.getD a enD) (enD_mem ha)
  have h10 := hlc.2.2.2.2.1
  iterate 11 (refine tr_mv rfl (fun _ => rfl) ?_)
  refine tr_vc (q := 2) rfl ⟨by decide, by decide +kernel⟩ rfl rfl rfl (q_159 (j := 0) h ha (by omega) (fun σ' h' k' => ?_))
  iterate 1 (refine tr_mv rfl (fun _ => rfl) ?_)
  exact s_337_lp ha (gch_grp hlc) (by rw [hn]; exact grpL_len hlc.1 hlc.2.1) (by rw [hn]; exact grpL_pos _) (by omega) K _ 0 (-1) 0 σ' none none h' k' (Nat.add_zero _) (gch_grp hlc) (by omega) (by omega)
end LOC2
