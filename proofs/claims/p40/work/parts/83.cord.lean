/-! The class's order of an index. -/
def kfE (tx : List (List Int)) (en : List EnT) (D : TD) (o : Nat → Int) (i : Nat) : List Int := keyOf D o 4 (frm tx (en.getD i enD))
def prE (en : List EnT) (i : Nat) : Int := enP (en.getD i enD)
def inE (en : List EnT) (x i : Nat) : Bool := decide (enS (en.getD i enD) / 2 ^ x % 2 = 1)
def fwE (tx : List (List Int)) (en : List EnT) (D : TD) (o : Nat → Int) (i : Nat) : Int := rget (kfE tx en D o i) 0 - 1
def ordE (tx : List (List Int)) (en : List EnT) (D : TD) (o : Nat → Int) (x : Nat) : List Nat := ordL (kfE tx en D o) (prE en) (inE en x) en.length
def fwsE (tx : List (List Int)) (en : List EnT) (D : TD) (o : Nat → Int) : List Int := (List.range en.length).map (fwE tx en D o)
theorem okEn_pr {tx : List (List Int)} {en : List EnT} (h : okEn tx en) (x : Nat) : okPr (prE en) (inE en x) en.length := by
  intro e he
  rcases h.2.2 e he with g | ⟨p, g1, g2, g3, g4⟩
  · exact Or.inl g
  · refine Or.inr ⟨p, g1, g2, g3, ?_⟩
    unfold inE
    rw [g4]
theorem fold_len (kf : Nat → List Int) : ∀ (es l : List Nat), (es.foldl (insK kf) l).length = l.length + es.length
  | [], l => rfl
  | e :: es, l => by
    show (es.foldl (insK kf) (insK kf l e)).length = _
    rw [fold_len kf es]
    unfold insK
    rw [List.length_reverse, insR_len, List.length_reverse, List.length_cons]
    omega
theorem range_filter_le (p : Nat → Bool) {i n : Nat} (h : i ≤ n) : ((List.range i).filter p).length ≤ ((List.range n).filter p).length := ((List.range_sublist.mpr h).filter p).length_le
theorem range_filter_succ (p : Nat → Bool) (i : Nat) : (List.range (i + 1)).filter p = (List.range i).filter p ++ (if p i = true then [i] else []) := by
  rw [List.range_succ, List.filter_append]
  congr 1
  by_cases h : p i = true
  · rw [if_pos h, List.filter_cons_of_pos h, List.filter_nil]
  · rw [if_neg h, List.filter_cons_of_neg h, List.filter_nil]
section CORD
variable {Ls N k pc n n' nn b c t a q kd w d p X : Nat} {L L0 : mLs} {st r as : List mV} {h h' : mH} {σ σ' σ'' : Sg} {post : tP} {x y z x' y' i i' s v m u lv : Int} {xs ys : List Int} {e : mE} {C : Nat → Nat → Prop} {R : Nat → Prop} {tx : List (List Int)} {en : List EnT} {D : TD} {o : Nat → Int}
theorem s_78 (hX : X < 3) (K : post (.inl (some (mI (σ.2 (295 + 29 * X) 3)))) σ) (hb : σ.2 (295 + 29 * X) 3 = 0 ∨ σ.2 (295 + 29 * X) 3 = 1) : Tr Ls N 78 0 [some (mP (some (295 + 29 * X)))] [] σ post := by
  iterate 1 (refine tr_mv rfl (fun _ => rfl) ?_)
  refine tr_gi rfl (by decide) (X_O hX) (by decide) (X_c hX) (X_n3 hX) ?_
  exact tr_reti rfl (Or.inr hb) K
theorem s_79 (hX : X < 3) (K : post (.inl (some (mP (some ((295 + 29 * X) + 1))))) σ) : Tr Ls N 79 0 [some (mP (some (295 + 29 * X)))] [] σ post := by
  iterate 1 (refine tr_mv rfl (fun _ => rfl) ?_)
  refine tr_gr rfl (X_O hX) (by decide) (X_p0 hX) ?_
  exact tr_ret rfl (fun _ => rfl) K
theorem s_84 (hX : X < 3) (K : post (.inl (some (mP (some ((295 + 29 * X) + 5))))) σ) : Tr Ls N 84 0 [some (mP (some (295 + 29 * X)))] [] σ post := by
  iterate 1 (refine tr_mv rfl (fun _ => rfl) ?_)
  refine tr_gr rfl (X_O hX) (by decide) (X_p2 hX) ?_
  exact tr_ret rfl (fun _ => rfl) K
theorem s_80 (hX : X < 3) (K : post (.inl none) (setF (setR (setR σ ((295 + 29 * X) + 1) []) ((295 + 29 * X) + 3) []) (295 + 29 * X) 3 1)) : Tr Ls N 80 0 [some (mP (some (295 + 29 * X)))] [] σ post := by
  iterate 1 (refine tr_mv rfl (fun _ => rfl) ?_)
  refine tr_gr rfl (X_O hX) (by decide) (X_p0 hX) ?_
  refine tr_clear (X_r0 hX) rfl rfl ?_
  iterate 1 (refine tr_mv rfl (fun _ => rfl) ?_)
  refine tr_gr rfl (X_O hX) (by decide) (X_p1 hX) ?_
  refine tr_clear (X_r1 hX) rfl rfl ?_
  iterate 2 (refine tr_mv rfl (fun _ => rfl) ?_)
  refine tr_pi rfl (Or.inr ⟨rfl, Or.inr rfl⟩) (X_O hX) (by decide) (X_c hX) (X_n3 hX) ?_
  exact tr_ret rfl (fun _ => rfl) K
theorem s_81 (hX : X < 3) (hx : in32 x) (hl : (σ.1 ((295 + 29 * X) + 3)).length < 24) (K : post (.inl none) (setR σ ((295 + 29 * X) + 3) (σ.1 ((295 + 29 * X) + 3) ++ [x]))) : Tr Ls N 81 0 [some (mP (some (295 + 29 * X))), some (mI x)] [] σ post := by
  iterate 1 (refine tr_mv rfl (fun _ => rfl) ?_)
  refine tr_gr rfl (X_O hX) (by decide) (X_p1 hX) ?_
  iterate 1 (refine tr_mv rfl (fun _ => rfl) ?_)
  refine tr_put (X_r1 hX) hx rfl rfl ?_
  rw [rput_lt hl]
  exact tr_ret rfl (fun _ => rfl) K
theorem s_82 (hX : X < 3) (hx : in32 x) (K : post (.inl (some (mI (rget (σ.1 ((295 + 29 * X) + 3)) x)))) σ) : Tr Ls N 82 0 [some (mP (some (295 + 29 * X))), some (mI x)] [] σ post := by
  iterate 1 (refine tr_mv rfl (fun _ => rfl) ?_)
  refine tr_gr rfl (X_O hX) (by decide) (X_p1 hX) ?_
  iterate 1 (refine tr_mv rfl (fun _ => rfl) ?_)
  refine tr_at2 (X_r1 hX) (m32_of hx) rfl rfl ?_
  exact tr_ri rfl rfl K
theorem s_83 (hX : X < 3) (K : post (.inl none) (setF σ (295 + 29 * X) 3 0)) : Tr Ls N 83 0 [some (mP (some (295 + 29 * X)))] [] σ post := by
  iterate 2 (refine tr_mv rfl (fun _ => rfl) ?_)
  refine tr_pi rfl (Or.inr ⟨rfl, Or.inl rfl⟩) (X_O hX) (by decide) (X_c hX) (X_n3 hX) ?_
  exact tr_ret rfl (fun _ => rfl) K
theorem s_85 (hX : X < 3) (hb : isRow b n) (hne : (295 + 29 * X) + 5 ≠ b) (hl : (σ.1 b).length ≤ 24) (K : post (.inl none) (setF (setR σ ((295 + 29 * X) + 5) (σ.1 b)) (295 + 29 * X) 3 0)) : Tr Ls N 85 0 [some (mP (some (295 + 29 * X))), some (mP (some b))] [] σ post := by
  iterate 1 (refine tr_mv rfl (fun _ => rfl) ?_)
  refine tr_gr rfl (X_O hX) (by decide) (X_p2 hX) ?_
  iterate 1 (refine tr_mv rfl (fun _ => rfl) ?_)
  refine tr_vc (q := (295 + 29 * X) + 5) rfl ⟨(X_r2 hX).1, (X_r2 hX).2.1⟩ rfl rfl rfl (s_102 (X_r2 hX) hb hne hl ?_)
  iterate 2 (refine tr_mv rfl (fun _ => rfl) ?_)
  refine tr_pi rfl (Or.inr ⟨rfl, Or.inl rfl⟩) (X_O hX) (by decide) (X_c hX) (X_n3 hX) ?_
  exact tr_ret rfl (fun _ => rfl) K
theorem s_190 (hE : cEn σ en) (hn : en.length ≤ 24) (hin : ∀ i, i < en.length → in32 (prE en i)) (hb : isRow b n) (hbk : ¬ isKy b) (hbe : ¬ (361 ≤ b ∧ b ≤ 476 ∧ b % 5 = 1)) {kf : Nat → List Int} (hk : ∀ i, i < en.length → σ.1 (155 + 4 * i) = kf i) {pre : List Nat} (e : σ.1 b = ci pre) (hl : pre.length + (subsL kf (prE en) en.length p).length ≤ n) (hp : p < 1000) (K : post (.inl none) (setR σ b (ci (pre ++ subsL kf (prE en) en.length p)))) :
    Tr Ls N 190 0 [some (mP (some 2)), some (mI (p : Int)), some (mP (some b)), none, none] [] σ post := by
  have hsm := isRow_small hb
  have hsl : (subsL kf (prE en) en.length p).length = ((List.range en.length).filter (fun e => decide (prE en e = (p : Int)))).length := by
    unfold subsL
    rw [fold_len]
    simp
  have loop : ∀ (d i : Nat), i + d = en.length → Tr Ls N 190 8 [some (mP (some 2)), some (mI (p : Int)), some (mP (some b)), some (mI (pre.length : Int)), some (mI (i : Int))] [] (setR σ b (ci (pre ++ ((List.range i).filter (fun e => decide (prE en e = (p : Int)))).foldl (insK kf) []))) post := by
    intro d
    induction d with
    | zero =>
      intro i ei
      repeat (first | refine tr_gr rfl ⟨by decide, rfl⟩ (by decide) rfl ?_ | refine tr_gi rfl (by decide) ⟨by decide, rfl⟩ (by decide) rfl rfl ?_ | refine tr_gr rfl (by assumption) (by decide) (by assumption) ?_ | refine tr_gi rfl (by decide) (by assumption) (by decide) (by assumption) (by assumption) ?_ | (refine tr_rem ?_ ?_ rfl ?_; omega; omega) | (refine tr_div ?_ ?_ rfl ?_; omega; omega) | refine tr_mv rfl (fun _ => rfl) ?_ | refine tr_ia2 (m32_of (by omega)) (by omega) rfl (fun _ => rfl) rfl (by decide) (by decide) (fun _ => rfl) ?_ | refine tr_size (by assumption) rfl rfl ?_ | refine tr_at2 (by assumption) (m32_of (by omega)) rfl rfl ?_)
      rw [show (setR σ b (ci (pre ++ ((List.range i).filter (fun e => decide (prE en e = (p : Int)))).foldl (insK kf) []))).2 2 9 = (en.length : Int) from hE.1]
      refine tr_cmp2 rfl (m32_of (by omega)) (m32_of (by omega)) (fun _ => ?_) (fun c1 => absurd (show (en.length : Int) ≤ (i : Int) by omega) c1)
      refine tr_ret rfl (fun _ => rfl) ?_
      rw [show i = en.length by omega]
      exact K
    | succ d ih =>
      intro i ei
      generalize hacc : ((List.range i).filter (fun e => decide (prE en e = (p : Int)))).foldl (insK kf) [] = acc
      have hal : acc.length = ((List.range i).filter (fun e => decide (prE en e = (p : Int)))).length := by
        rw [← hacc, fold_len]
        simp
      have hmem : ∀ y ∈ acc, y < i := by
        have h := (subs_spec (kf := kf) (pr := prE en) (n := i) p).2
        intro y hy
        rw [← hacc] at hy
        exact ((h y).mp hy).1
      have hmono := range_filter_le (fun e => decide (prE en e = (p : Int))) (show i + 1 ≤ en.length by omega)
      have hsucc := range_filter_succ (fun e => decide (prE en e = (p : Int))) i
      have hpi : (setR σ b (ci (pre ++ acc))).2 (360 + 5 * i) 1 = prE en i := (hE.2.1 i (by omega)).2.1
      have h38 : ∀ σ', σ' = setR σ b (ci (pre ++ ((List.range (i + 1)).filter (fun e => decide (prE en e = (p : Int)))).foldl (insK kf) [])) → Tr Ls N 190 38 [some (mP (some 2)), some (mI (p : Int)), some (mP (some b)), some (mI (pre.length : Int)), some (mI (i : Int))] [] σ' post := by
        intro σ' eσ
        subst eσ
        iterate 2 (refine tr_mv rfl (fun _ => rfl) ?_)
        show Tr Ls N 190 8 [some (mP (some 2)), some (mI (p : Int)), some (mP (some b)), some (mI (pre.length : Int)), some (mI ((i : Int) + 1))] [] _ post
        rw [show (i : Int) + 1 = ((i + 1 : Nat) : Int) by omega]
        exact ih (i + 1) (by omega)
      repeat (first | refine tr_gr rfl ⟨by decide, rfl⟩ (by decide) rfl ?_ | refine tr_gi rfl (by decide) ⟨by decide, rfl⟩ (by decide) rfl rfl ?_ | refine tr_gr rfl (by assumption) (by decide) (by assumption) ?_ | refine tr_gi rfl (by decide) (by assumption) (by decide) (by assumption) (by assumption) ?_ | (refine tr_rem ?_ ?_ rfl ?_; omega; omega) | (refine tr_div ?_ ?_ rfl ?_; omega; omega) | refine tr_mv rfl (fun _ => rfl) ?_ | refine tr_ia2 (m32_of (by omega)) (by omega) rfl (fun _ => rfl) rfl (by decide) (by decide) (fun _ => rfl) ?_ | refine tr_size (by assumption) rfl rfl ?_ | refine tr_at2 (by assumption) (m32_of (by omega)) rfl rfl ?_)
      rw [show (setR σ b (ci (pre ++ acc))).2 2 9 = (en.length : Int) from hE.1]
      refine tr_cmp2 rfl (m32_of (by omega)) (m32_of (by omega)) (fun c1 => absurd c1 (by show ¬ _ ≤ _; omega)) (fun _ => ?_)
      iterate 2 (refine tr_mv rfl (fun _ => rfl) ?_)
      refine tr_vc (q := 2) rfl ⟨by decide, by decide +kernel⟩ rfl rfl rfl (s_171 (show i < 24 by omega) ?_)
      refine tr_vc (q := (360 + 5 * i)) rfl (E_O (e_E (by omega))) rfl rfl rfl (s_51 (e_E (by omega)) ?_)
      rw [hpi]
      have hin' := hin i (by omega)
      iterate 1 (refine tr_mv rfl (fun _ => rfl) ?_)
      refine tr_cmp2 rfl (m32_of hin') (m32_of (by omega)) (fun c2 => ?_) (fun c2 => ?_)
      · have c2 : prE en i ≠ (p : Int) := c2
        refine h38 _ ?_
        rw [hsucc, if_neg (by rw [decide_eq_false c2]; simp), List.append_nil, hacc]
      · have c2 : prE en i = (p : Int) := Decidable.byContradiction c2
        have h1 := congrArg List.length hsucc
        rw [if_pos (decide_eq_true c2), List.length_append, List.length_singleton] at h1
        iterate 4 (refine tr_mv rfl (fun _ => rfl) ?_)
        refine tr_vc (q := 2) rfl ⟨by decide, by decide +kernel⟩ rfl rfl rfl (s_191m (kf := kf) (pre := pre) (l := acc) hb hbk (show i < 30 by omega) ?_ (setR_same _ _ _) (fun y hy => ⟨by have := hmem y hy; omega, ?_⟩) (by omega) rfl ?_)
        · rw [setR_ne _ _ (fun g => hbk (by omega))]
          exact hk i (by omega)
        · have := hmem y hy
          rw [setR_ne _ _ (fun g => hbk (by omega))]
          exact hk y (by omega)
        · rw [setR_setR]
          refine h38 _ ?_
          rw [hsucc, if_pos (decide_eq_true c2), List.foldl_append, hacc]
          rfl
  iterate 1 (refine tr_mv rfl (fun _ => rfl) ?_)
  refine tr_size hb rfl rfl ?_
  rw [e, show ((ci pre).length : Int) = (pre.length : Int) by simp]
  iterate 3 (refine tr_mv rfl (fun _ => rfl) ?_)
  have h9 := loop en.length 0 (by omega)
  simp only [List.range_zero, List.filter_nil, List.foldl_nil, List.append_nil] at h9
  rw [← e, setR_self] at h9
  exact h9
end CORD
