/-! The law's isCompared. -/
section COMP
variable {Ls N k pc n a b d X j : Nat} {L : mLs} {r : List mV} {σ σ' σ0 σ1 σ2 : Sg} {post : tP} {i x y z v w s c : Int} {B M : Int → Int} {ds an dA t A A2 : List Int} {ws rs PA PB : List Int} {tx : List (List Int)} {D3 : Nat → TD} {o3 : Nat → Nat → Int} {R3 : Nat → RuT} {hd : Nat → Int} {en : List EnT} {bf : Nat → List Nat} {rd : Nat → List Int} {hh ww : Int} {v4 v5 v6 v7 v8 v9 v10 : Option mV}
/-- two rows at the place k, alike so far -/
theorem cmp_at (k : Nat) (hA : ∀ x ∈ A, 1 ≤ x) (hA2 : ∀ x ∈ A2, 1 ≤ x) (hc : cmpL (A.drop k) (A2.drop k) = c) :
    (rget A (k : Int) = rget A2 (k : Int) → 0 ≤ rget A (k : Int) → k < A.length ∧ cmpL (A.drop (k + 1)) (A2.drop (k + 1)) = c) ∧
    (rget A (k : Int) ≠ rget A2 (k : Int) ∨ rget A (k : Int) < 0 → (c = 0 ∧ rget A (k : Int) = -1 ∧ rget A2 (k : Int) = -1) ∨ (c = -1 ∧ rget A (k : Int) < rget A2 (k : Int)) ∨ (c = 1 ∧ rget A2 (k : Int) < rget A (k : Int))) := by
  by_cases h1 : k < A.length
  · have g1 := hA (A.getD k 0) (getD_mem h1)
    rw [drop_get h1] at hc
    rw [rg_in h1]
    by_cases h2 : k < A2.length
    · have g2 := hA2 (A2.getD k 0) (getD_mem h2)
      rw [drop_get h2] at hc
      rw [rg_in h2]
      unfold cmpL at hc
      by_cases e : A.getD k 0 = A2.getD k 0
      · rw [if_pos e] at hc
        exact ⟨fun _ _ => ⟨h1, hc⟩, fun g => by omega⟩
      · rw [if_neg e] at hc
        refine ⟨fun g => absurd g e, fun _ => ?_⟩
        by_cases e2 : A.getD k 0 < A2.getD k 0
        · rw [if_pos e2] at hc
          exact Or.inr (Or.inl ⟨hc.symm, e2⟩)
        · rw [if_neg e2] at hc
          exact Or.inr (Or.inr ⟨hc.symm, by omega⟩)
    · rw [rg_out h2]
      rw [List.drop_eq_nil_of_le (by omega : A2.length ≤ k)] at hc
      have hc2 : (1 : Int) = c := hc
      exact ⟨fun g => by omega, fun _ => Or.inr (Or.inr ⟨hc2.symm, by omega⟩)⟩
  · rw [rg_out h1]
    rw [List.drop_eq_nil_of_le (by omega : A.length ≤ k)] at hc
    by_cases h2 : k < A2.length
    · have g2 := hA2 (A2.getD k 0) (getD_mem h2)
      rw [drop_get h2] at hc
      rw [rg_in h2]
      have hc2 : (-1 : Int) = c := hc
      exact ⟨fun g => by omega, fun _ => Or.inr (Or.inl ⟨hc2.symm, by omega⟩)⟩
    · rw [rg_out h2]
      rw [List.drop_eq_nil_of_le (by omega : A2.length ≤ k)] at hc
      have hc2 : (0 : Int) = c := hc
      exact ⟨fun _ g => absurd g (by decide), fun _ => Or.inl ⟨hc2.symm, rfl, rfl⟩⟩
/-- how two texts compare on a strength -/
abbrev cT (tx : List (List Int)) (D : TD) (o : Nat → Int) (d a b : Nat) : Int := cmpL (keyOf D o d (tx.getD a [])) (keyOf D o d (tx.getD b []))
theorem cT_in (tx : List (List Int)) (D : TD) (o : Nat → Int) (d a b : Nat) : -1 ≤ cT tx D o d a b ∧ cT tx D o d a b ≤ 1 := by
  unfold cT
  rcases cmpL_in (keyOf D o d (tx.getD a [])) (keyOf D o d (tx.getD b [])) with e | e | e <;> rw [e] <;> decide
theorem s_334_it (h : StC σ B M ds an tx D3 o3 R3 hd en bf ws rs rd PA PB hh ww) (hX : X < 3) (ha : a < tx.length) (hb : b < tx.length) (h14 : 1 ≤ d ∧ d ≤ 4) (hx : x = 0 ∨ x = cT tx (D3 X) (o3 X) d a b)
    (K : ∀ σ', StC σ' B M ds an tx D3 o3 R3 hd en bf ws rs rd PA PB hh ww → kp4 σ σ' → Tr Ls N 334 9 [some (mP (some 2)), some (mI (X : Int)), some (mI (a : Int)), some (mI (b : Int)), some (mI (cT tx (D3 X) (o3 X) d a b)), some (mI 1), some (mI ((d + 1 : Nat) : Int)), some (mI (cT tx (D3 X) (o3 X) d a b)), v8, v9, v10] [] σ' post) :
    Tr Ls N 334 9 [some (mP (some 2)), some (mI (X : Int)), some (mI (a : Int)), some (mI (b : Int)), some (mI x), some (mI 1), some (mI (d : Int)), v7, v8, v9, v10] [] σ post := by
  have hc := cT_in tx (D3 X) (o3 X) d a b
  obtain ⟨c, hc0⟩ : ∃ c, cT tx (D3 X) (o3 X) d a b = c := ⟨_, rfl⟩
  have hc1 : cmpL (keyOf (D3 X) (o3 X) d (tx.getD a [])) (keyOf (D3 X) (o3 X) d (tx.getD b [])) = c := hc0
  rw [hc0] at hx K hc
  have hx2 : in32 x := by
    rcases hx with e | e <;> omega
  iterate 2 (refine tr_mv rfl (fun _ => rfl) ?_)
  refine tr_cmp2 rfl (m32_of (by omega)) (m32_of (by omega)) (fun c1 => ?_) (fun c1 => ?_)
  · exfalso
    omega
  iterate 7 (refine tr_mv rfl (fun _ => rfl) ?_)
  refine tr_vc (q := 2) rfl ⟨by decide, by decide +kernel⟩ rfl rfl rfl (q_153 h hX ha hb h14 (fun σ1 h1 k1 => ?_))
  rw [hc1]
  iterate 3 (refine tr_mv rfl (fun _ => rfl) ?_)
  refine tr_cmp2 rfl (m32_of (by omega)) (m32_of (by omega)) (fun c2 => ?_) (fun c2 => ?_)
  · exfalso
    omega
  iterate 2 (refine tr_mv rfl (fun _ => rfl) ?_)
  refine tr_cmp2 rfl (m32_of (by omega)) (m32_of (by omega)) (fun c3 => ?_) (fun c3 => ?_)
  · exfalso
    omega
  iterate 6 (refine tr_mv rfl (fun _ => rfl) ?_)
  refine tr_vc (q := 2) rfl ⟨by decide, by decide +kernel⟩ rfl rfl rfl (q_154 h1 hX ha hb h14 (fun σ2 h2 k2 => ?_))
  rw [hc1]
  refine tr_cmp2 rfl (m32_of (by omega)) (m32_of (by omega)) (fun c4 => ?_) (fun c4 => ?_)
  · exact absurd rfl c4
  iterate 6 (refine tr_mv rfl (fun _ => rfl) ?_)
  refine tr_vc (q := 2) rfl ⟨by decide, by decide +kernel⟩ rfl rfl rfl (q_153 h2 hX hb ha h14 (fun σ3 h3 k3 => ?_))
  rw [cmpL_anti (keyOf (D3 X) (o3 X) d (tx.getD a [])) (keyOf (D3 X) (o3 X) d (tx.getD b [])), hc1]
  iterate 1 (refine tr_mv rfl (fun _ => rfl) ?_)
  refine tr_cmp2 rfl (m32_of (by omega)) (m32_of (by omega)) (fun c5 => ?_) (fun c5 => ?_)
  · exact absurd (Int.neg_neg _).symm c5
  iterate 1 (refine tr_mv rfl (fun _ => rfl) ?_)
  have hK := K σ3 h3 ((k1.tr k2).tr k3)
  rw [show ((d + 1 : Nat) : Int) = (d : Int) + 1 by omega] at hK
  refine tr_if2 rfl (m32_of (by omega)) (fun c6 => ?_) (fun c6 => ?_)
  · iterate 7 (refine tr_mv rfl (fun _ => rfl) ?_)
    exact hK
  · iterate 2 (refine tr_mv rfl (fun _ => rfl) ?_)
    refine tr_cmp2 rfl (m32_of (by omega)) (m32_of (by omega)) (fun c7 => ?_) (fun c7 => ?_)
    · exfalso
      omega
    iterate 7 (refine tr_mv rfl (fun _ => rfl) ?_)
    exact hK
end COMP
