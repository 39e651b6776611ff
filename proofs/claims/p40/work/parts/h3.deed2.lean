/-! The law's deeds: signs of a text; rules. -/
section DEED2
variable {Ls N N1 k pc n a b c p q w tn tu Y t e X j ru m : Nat} {L : mLs} {r : List mV} {σ σ' σ0 σ1 σ2 : Sg} {post : tP} {i x y z v d : Int} {B M : Int → Int} {ds an dA A A2 : List Int} {ws rs PA PB : List Int} {tx : List (List Int)} {D3 : Nat → TD} {o3 : Nat → Nat → Int} {R3 : Nat → RuT} {hd : Nat → Int} {en : List EnT} {bf : Nat → List Nat} {rd : Nat → List Int} {hh ww : Int} {v11 v12 v13 v14 v15 v16 v17 v18 v19 v20 : Option mV}
set_option maxRecDepth 8000 in
/-- one sign tried -/
theorem law_sgn {s : Nat} (h : LDr σ p q w t ru ds) (hn : ds.length < 10) (hs : s ≤ 31)
    (K : ∀ (σ' : Sg) (ds' : List Int) (v20 : Option mV), ds'.length ≤ ds.length + 1 → LDr σ' p q w t ru ds' → Tr Ls N 364 473 (lwD p q w tn tu Y t e x d (some (mI z)) (some (mI (ds'.length : Int))) (some (mI i)) (some (mI (s : Int))) v20) [] σ' post) :
    Tr Ls (N + 1) 364 370 (lwD p q w tn tu Y t e x d (some (mI z)) (some (mI (ds.length : Int))) (some (mI i)) (some (mI (s : Int))) v20) [] σ post := by
  have key : ∀ b : Int, in32 b → Tr Ls (N + 1) 364 426 (lwD p q w tn tu Y t e x d (some (mI z)) (some (mI (ds.length : Int))) (some (mI i)) (some (mI (s : Int))) v20) [mI b, mI 0, mP (some 2)] σ post := by
    intro b hb
    iterate 2 (refine tr_mv rfl (fun _ => rfl) ?_)
    refine tr_stat1 rfl rfl rfl (law_sg (N := 0) h hn hb (fun _ => ?_) (fun σ' h' => ?_))
    · iterate 9 (refine tr_mv rfl (fun _ => rfl) ?_)
      refine tr_cmp2 rfl (m32_of (by omega)) (m32_of (by omega)) (fun c1 => ?_) (fun c1 => ?_)
      · exfalso
        omega
      iterate 6 (refine tr_mv rfl (fun _ => rfl) ?_)
      exact K σ ds _ (by omega) h
    · iterate 2 (refine tr_mv rfl (fun _ => rfl) ?_)
      refine tr_if2 rfl (m32_of (by omega)) (fun c1 => ?_) (fun c1 => ?_)
      · exfalso
        omega
      iterate 7 (refine tr_mv rfl (fun _ => rfl) ?_)
      refine tr_cmp2 rfl (m32_of (by omega)) (m32_of (by omega)) (fun c2 => ?_) (fun c2 => absurd rfl c2)
      iterate 3 (refine tr_mv rfl (fun _ => rfl) ?_)
      have := K σ' (ds ++ [b]) (some (mI ((ds.length : Int) + 1))) (by rw [List.length_append, List.length_singleton]; omega) h'
      rw [List.length_append, List.length_singleton, show ((ds.length + 1 : Nat) : Int) = (ds.length : Int) + 1 by omega] at this
      exact this
  have m4 : s % 4 < 4 := Nat.mod_lt _ (by decide)
  have m8 : s % 8 < 8 := Nat.mod_lt _ (by decide)
  iterate 4 (refine tr_mv rfl (fun _ => rfl) ?_)
  refine tr_cmp2 rfl (m32_of (by omega)) (m32_of (by omega)) (fun c1 => ?_) (fun c1 => ?_)
  · iterate 2 (refine tr_mv rfl (fun _ => rfl) ?_)
    refine tr_cmp2 rfl (m32_of (by omega)) (m32_of (by omega)) (fun c2 => ?_) (fun c2 => ?_)
    · iterate 2 (refine tr_mv rfl (fun _ => rfl) ?_)
      refine tr_cmp2 rfl (m32_of (by omega)) (m32_of (by omega)) (fun c3 => ?_) (fun c3 => ?_)
      · iterate 3 (refine tr_mv rfl (fun _ => rfl) ?_)
        refine tr_remn (a := s) (b := 8) (by omega) (by omega) rfl ?_
        iterate 1 (refine tr_mv rfl (fun _ => rfl) ?_)
        exact key _ (by omega)
      · iterate 3 (refine tr_mv rfl (fun _ => rfl) ?_)
        refine tr_remn (a := s) (b := 4) (by omega) (by omega) rfl ?_
        iterate 2 (refine tr_mv rfl (fun _ => rfl) ?_)
        exact key _ (by omega)
    · iterate 4 (refine tr_mv rfl (fun _ => rfl) ?_)
      exact key _ (by omega)
  · iterate 2 (refine tr_mv rfl (fun _ => rfl) ?_)
    refine tr_remn (a := s) (b := 4) (by omega) (by omega) rfl ?_
    iterate 1 (refine tr_mv rfl (fun _ => rfl) ?_)
    exact key _ (by omega)
set_option maxRecDepth 8000 in
theorem law_335 (hY : Y < 2 ^ 28) (hp : p < 30) (K : jnK Ls N q tn tu Y t e x d post) :
    ∀ (m k : Nat) (σ : Sg) (ds : List Int) (z : Int) (v19 v20 : Option mV), m + k = 1 + Y / 2 ^ 2 % 8 → ds.length ≤ k → LDr σ p q w t ru ds → Tr Ls (N + 1 + m) 364 335 (lwD p q w tn tu Y t e x d (some (mI z)) (some (mI (ds.length : Int))) (some (mI (k : Int))) v19 v20) [] σ post := by
  have m1 : Y / 2 ^ 2 % 8 < 8 := Nat.mod_lt _ (by decide)
  have d2 : Y / 2 ^ 2 ≤ Y := Nat.div_le_self _ _
  intro m
  induction m with
  | zero =>
    intro k σ ds z v19 v20 hk hd h
    iterate 4 (refine tr_mv rfl (fun _ => rfl) ?_)
    refine tr_shrn (a := Y) (p := 2) (by omega) (by decide) rfl ?_
    iterate 1 (refine tr_mv rfl (fun _ => rfl) ?_)
    refine tr_remn (a := Y / 2 ^ 2) (b := 8) (by omega) (by omega) rfl ?_
    iterate 1 (refine tr_mv rfl (fun _ => rfl) ?_)
    refine tr_cmp2 rfl (m32_of (by omega)) (m32_of (by omega)) (fun c1 => ?_) (fun c1 => ?_)
    · exact law_479 h hp K
    · exfalso
      omega
  | succ m ih =>
    intro k σ ds z v19 v20 hk hd h
    iterate 4 (refine tr_mv rfl (fun _ => rfl) ?_)
    refine tr_shrn (a := Y) (p := 2) (by omega) (by decide) rfl ?_
    iterate 1 (refine tr_mv rfl (fun _ => rfl) ?_)
    refine tr_remn (a := Y / 2 ^ 2) (b := 8) (by omega) (by omega) rfl ?_
    iterate 1 (refine tr_mv rfl (fun _ => rfl) ?_)
    refine tr_cmp2 rfl (m32_of (by omega)) (m32_of (by omega)) (fun c1 => ?_) (fun c1 => ?_)
    · exfalso
      omega
    iterate 10 (refine tr_mv rfl (fun _ => rfl) ?_)
    refine tr_andm (m := 31) (by decide) rfl (fun s hs => ?_)
    iterate 1 (refine tr_mv rfl (fun _ => rfl) ?_)
    rw [show N + 1 + (m + 1) = (N + 1 + m) + 1 by omega]
    refine law_sgn h (by omega) hs (fun σ' ds' v20 hl h' => ?_)
    iterate 2 (refine tr_mv rfl (fun _ => rfl) ?_)
    have := ih (k + 1) σ' ds' ((z * 1103515245) + 12345) (some (mI (s : Int))) v20 (by omega) (by omega) h'
    unfold lwD lwV at this
    rw [show ((k + 1 : Nat) : Int) = (k : Int) + 1 by omega] at this
    exact this
set_option maxRecDepth 8000 in
theorem law_319 (h : LI σ p q w) (hY : Y < 2 ^ 28) (hp : p < 30) (K : jnK Ls N q tn tu Y t e x d post) : Tr Ls (N + 10) 364 319 (lwD p q w tn tu Y t e x d v16 v17 v18 v19 v20) [] σ post := by
  have m1 : Y / 2 ^ 2 % 8 < 8 := Nat.mod_lt _ (by decide)
  obtain ⟨ru, h2⟩ := h.dr t
  iterate 10 (refine tr_mv rfl (fun _ => rfl) ?_)
  exact tr_mono (law_335 hY hp K _ 0 σ [] _ v19 v20 (Nat.add_zero _) (Nat.le_refl _) h2) (by omega)
end DEED2
