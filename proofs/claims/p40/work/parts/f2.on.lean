/-! The law's asks and on: a call, or the number of what it threw. -/
def onP (post : tP) : tP := fun o σ' => match o with
  | .inl v => ∃ x : Int, v = some (mI x) ∧ post (.inl (some (mI x))) σ'
  | .inr E => (E = 0 ∧ post (.inl (some (mI (-11)))) σ') ∨ (E = 1 ∧ post (.inl (some (mI (-12)))) σ') ∨ (E = 2 ∧ post (.inl (some (mI (-13)))) σ')
section ON
variable {Ls N N1 k pc n a b d X j : Nat} {L : mLs} {st r : List mV} {σ σ' σ1 σ2 : Sg} {post : tP} {i x y z v w : Int} {B M : Int → Int} {ds an dA : List Int} {ws rs PA PB : List Int} {tx : List (List Int)} {D3 : Nat → TD} {o3 : Nat → Nat → Int} {R3 : Nat → RuT} {hd : Nat → Int} {en : List EnT} {bf : Nat → List Nat} {rd : Nat → List Int} {hh ww : Int}
theorem tr_post {post' : tP} (hT : Tr Ls N k pc L st σ post') (hp : ∀ o σ', post' o σ' → post o σ') : Tr Ls N k pc L st σ post := by
  intro h hr
  obtain ⟨f, o, h1, c, s, σ1, g1, g2, g3, g4, g5⟩ := hT h hr
  exact ⟨f, o, h1, c, s, σ1, g1, g2, g3, g4, hp o σ1 g5⟩
theorem tr_mono (hT : Tr Ls N1 k pc L st σ post) (hN : N1 ≤ N) : Tr Ls N k pc L st σ post := by
  intro h hr
  obtain ⟨f, o, h1, c, s, σ1, g1, g2, g3, g4⟩ := hT h hr
  exact ⟨f, o, h1, c, s, σ1, g1, by omega, by omega, g4⟩
theorem tk_no {E : Nat} (he : mPg.2.1 k pc E = none) (K : post (.inr E) σ) : tK Ls N k pc L r post (.inr E) σ := by
  unfold tK
  dsimp only
  rw [he]
  exact K
theorem s_on (hA : Tr Ls 1 331 0 [some (mP (some 2)), some (mI w), some (mI i), some (mI x), some (mI y)] [] σ (onP post)) : Tr Ls (N + 1) 332 0 [some (mP (some 2)), some (mI w), some (mI i), some (mI x), some (mI y), none] [] σ post := by
  iterate 5 (refine tr_mv rfl (fun _ => rfl) ?_)
  refine tr_stat1 rfl rfl rfl (tr_post hA ?_)
  intro o σ' ho
  match o, ho with
  | .inl v, ho =>
    obtain ⟨x, rfl, K⟩ := ho
    exact tr_ri rfl rfl K
  | .inr E, ho =>
    rcases ho with ⟨rfl, K⟩ | ⟨rfl, K⟩ | ⟨rfl, K⟩
    · refine tk_ex rfl rfl ?_
      iterate 1 (refine tr_mv rfl (fun _ => rfl) ?_)
      exact tr_ri rfl rfl K
    · refine tk_ex rfl rfl ?_
      iterate 1 (refine tr_mv rfl (fun _ => rfl) ?_)
      exact tr_ri rfl rfl K
    · refine tk_ex rfl rfl ?_
      iterate 1 (refine tr_mv rfl (fun _ => rfl) ?_)
      exact tr_ri rfl rfl K
theorem p_0 (h : StC σ B M ds an tx D3 o3 R3 hd en bf ws rs rd PA PB hh ww) (hx : in32 x) (K1 : ¬ isSg B x → post (.inl (some (mI (-11)))) σ) (K2 : isSg B x → ds.length = 10 → post (.inl (some (mI (-13)))) σ)
    (K3 : ∀ σ', isSg B x → ds.length < 10 → StC σ' B M (ds ++ [x]) an tx D3 o3 R3 hd en bf ws rs rd PA PB hh ww → kp4 σ σ' → post (.inl (some (mI ((ds.length : Int) + 1)))) σ') : Tr Ls (N + 1) 332 0 [some (mP (some 2)), some (mI 0), some (mI x), some (mI y), some (mI z), none] [] σ post := by
  refine s_on ?_
  repeat (refine tr_mv rfl (fun _ => rfl) ?_)
  refine tr_vc1 (q := 2) rfl ⟨by decide, by decide +kernel⟩ rfl rfl rfl (q_128 (N := 0) h hx (fun g => tk_no rfl (Or.inl ⟨rfl, K1 g⟩)) (fun g1 g2 => tk_no rfl (Or.inr (Or.inr ⟨rfl, K2 g1 g2⟩))) (fun σ' g1 g2 h' k' => ?_))
  repeat (refine tr_mv rfl (fun _ => rfl) ?_)
  exact tr_ri rfl rfl ⟨_, rfl, K3 σ' g1 g2 h' k'⟩
theorem p_1 (h : StC σ B M ds an tx D3 o3 R3 hd en bf ws rs rd PA PB hh ww) (hi : in32 i) (hx : in32 x) (hy : in32 y) (K1 : post (.inl (some (mI (-11)))) σ) (K2 : post (.inl (some (mI (-13)))) σ)
    (K3 : ∀ σ', cmOk B i x y → B i = -1 → cof B M x y = -1 → StC σ' (fUp B i x) (fUp M i y) ds an tx D3 o3 R3 hd en bf ws rs rd PA PB hh ww → kp4 σ σ' → post (.inl (some (mI ((cnB B 8 : Int) + 1)))) σ') : Tr Ls (N + 1) 332 0 [some (mP (some 2)), some (mI 1), some (mI i), some (mI x), some (mI y), none] [] σ post := by
  refine s_on ?_
  repeat (refine tr_mv rfl (fun _ => rfl) ?_)
  refine tr_vc1 (q := 2) rfl ⟨by decide, by decide +kernel⟩ rfl rfl rfl (q_129 (N := 0) h hi hx hy (tk_no rfl (Or.inl ⟨rfl, K1⟩)) (tk_no rfl (Or.inr (Or.inr ⟨rfl, K2⟩))) (fun σ' g1 g2 g3 h' k' => ?_))
  repeat (refine tr_mv rfl (fun _ => rfl) ?_)
  exact tr_ri rfl rfl ⟨_, rfl, K3 σ' g1 g2 g3 h' k'⟩
theorem p_2 (h : StC σ B M ds an tx D3 o3 R3 hd en bf ws rs rd PA PB hh ww) (hne : ds ≠ []) (K : ∀ σ', StC σ' B M [] (apA B M ds) tx D3 o3 R3 hd en bf ws rs rd PA PB hh ww → kp4 σ σ' → post (.inl (some (mI ((apA B M ds).length : Int)))) σ') : Tr Ls (N + 1) 332 0 [some (mP (some 2)), some (mI 2), some (mI x), some (mI y), some (mI z), none] [] σ post := by
  refine s_on ?_
  repeat (refine tr_mv rfl (fun _ => rfl) ?_)
  refine tr_vc (q := 2) rfl ⟨by decide, by decide +kernel⟩ rfl rfl rfl (q_132 h hne (fun σ' h' k' => ?_))
  repeat (refine tr_mv rfl (fun _ => rfl) ?_)
  exact tr_ri rfl rfl ⟨_, rfl, K σ' h' k'⟩
theorem p_3 (h : StC σ B M ds an tx D3 o3 R3 hd en bf ws rs rd PA PB hh ww) (hX : X < 3) (hx : 0 ≤ x ∧ x ≤ 7) (K1 : ∀ σ', StC σ' B M ds an tx D3 o3 R3 hd en bf ws rs rd PA PB hh ww → kp4 σ σ' → post (.inl (some (mI (-13)))) σ')
    (K2 : ∀ σ' (D' : TD) (R' : RuT) (b' : List Nat), R'.length = (R3 X).length + 1 → StC σ' B M [] [] tx (upf D3 X D') o3 (upf R3 X R') hd en (upf bf X b') ws rs rd PA PB hh ww → kp4 σ σ' → post (.inl (some (mI ((R3 X).length + 1 : Int)))) σ') : Tr Ls (N + 1) 332 0 [some (mP (some 2)), some (mI 3), some (mI (X : Int)), some (mI x), some (mI z), none] [] σ post := by
  refine s_on ?_
  repeat (refine tr_mv rfl (fun _ => rfl) ?_)
  refine tr_vc1 (q := 2) rfl ⟨by decide, by decide +kernel⟩ rfl rfl rfl (q_133 (N := 0) h hX hx (fun σ' h' k' => tk_no rfl (Or.inr (Or.inr ⟨rfl, K1 σ' h' k'⟩))) (fun σ' D' R' b' g1 h' k' => ?_))
  repeat (refine tr_mv rfl (fun _ => rfl) ?_)
  exact tr_ri rfl rfl ⟨_, rfl, K2 σ' D' R' b' g1 h' k'⟩
theorem p_4 (h : StC σ B M ds an tx D3 o3 R3 hd en bf ws rs rd PA PB hh ww) (hi : i = -1 ∨ (0 ≤ i ∧ i < (en.length : Int))) (hx : a < tx.length) (hy : 1 ≤ y ∧ y ≤ 7) (he24 : en.length < 24) (K1 : i ≠ -1 → enP (en.getD i.toNat enD) ≠ -1 → post (.inl (some (mI (-13)))) σ)
    (K2 : ∀ σ', (i = -1 ∨ enP (en.getD i.toNat enD) = -1) → StC σ' B M ds an tx D3 o3 R3 hd (en ++ [enNew a i (enSet en i y)]) bf ws rs rd PA PB hh ww → kp4 σ σ' → post (.inl (some (mI (en.length : Int)))) σ') : Tr Ls (N + 1) 332 0 [some (mP (some 2)), some (mI 4), some (mI i), some (mI (a : Int)), some (mI y), none] [] σ post := by
  refine s_on ?_
  repeat (refine tr_mv rfl (fun _ => rfl) ?_)
  refine tr_vc1 (q := 2) rfl ⟨by decide, by decide +kernel⟩ rfl rfl rfl (q_137 (N := 0) h hi hx hy he24 (fun g1 g2 => tk_no rfl (Or.inr (Or.inr ⟨rfl, K1 g1 g2⟩))) (fun σ' g1 h' k' => ?_))
  repeat (refine tr_mv rfl (fun _ => rfl) ?_)
  exact tr_ri rfl rfl ⟨_, rfl, K2 σ' g1 h' k'⟩
theorem p_5 (h : StC σ B M ds an tx D3 o3 R3 hd en bf ws rs rd PA PB hh ww) (ha : a < en.length) (hx : in32 x) (hy : in32 y) (K1 : post (.inl (some (mI (-12)))) σ)
    (K2 : ∀ σ', StC σ' B M ds an tx D3 o3 R3 hd (en.set a (enFm (en.getD a enD) x y)) bf ws rs rd PA PB hh ww → kp4 σ σ' → post (.inl (some (mI (enK (en.getD a enD))))) σ') : Tr Ls (N + 1) 332 0 [some (mP (some 2)), some (mI 5), some (mI (a : Int)), some (mI x), some (mI y), none] [] σ post := by
  refine s_on ?_
  repeat (refine tr_mv rfl (fun _ => rfl) ?_)
  refine tr_vc1 (q := 2) rfl ⟨by decide, by decide +kernel⟩ rfl rfl rfl (q_138 (N := 0) h ha hx hy (tk_no rfl (Or.inr (Or.inl ⟨rfl, K1⟩))) (fun σ' h' k' => ?_))
  repeat (refine tr_mv rfl (fun _ => rfl) ?_)
  exact tr_ri rfl rfl ⟨_, rfl, K2 σ' h' k'⟩
theorem p_6 (h : StC σ B M ds an tx D3 o3 R3 hd en bf ws rs rd PA PB hh ww) (ha : a < en.length) (hx : 1 ≤ x ∧ x ≤ 999) (hy : 0 ≤ y ∧ y ≤ 2) (K1 : (enL (en.getD a enD)).length = 10 → post (.inl (some (mI (-13)))) σ) (K2 : post (.inl (some (mI 0))) σ)
    (K3 : ∀ σ' (w : EnT), (enL (en.getD a enD)).length < 10 → (enT w = enT (en.getD a enD) ∧ enP w = enP (en.getD a enD) ∧ enS w = enS (en.getD a enD) ∧ enK w = enK (en.getD a enD) ∧ enA w = enA (en.getD a enD)) → enX w = enX (en.getD a enD) → (enL w).length = (enL (en.getD a enD)).length + 1 → StC σ' B M ds an tx D3 o3 R3 hd (en.set a w) bf ws rs rd PA PB hh ww → kp4 σ σ' → post (.inl (some (mI 1))) σ') : Tr Ls (N + 1) 332 0 [some (mP (some 2)), some (mI 6), some (mI (a : Int)), some (mI x), some (mI y), none] [] σ post := by
  refine s_on ?_
  repeat (refine tr_mv rfl (fun _ => rfl) ?_)
  refine tr_vc1 (q := 2) rfl ⟨by decide, by decide +kernel⟩ rfl rfl rfl (q_139 (N := 0) h ha hx hy (fun g => tk_no rfl (Or.inr (Or.inr ⟨rfl, K1 g⟩))) ?_ (fun σ' w g1 g2 g3 g4 h' k' => ?_))
  · repeat (refine tr_mv rfl (fun _ => rfl) ?_)
    exact tr_ri rfl rfl ⟨_, rfl, K2⟩
  · repeat (refine tr_mv rfl (fun _ => rfl) ?_)
    exact tr_ri rfl rfl ⟨_, rfl, K3 σ' w g1 g2 g3 g4 h' k'⟩
theorem p_7 (h : StC σ B M ds an tx D3 o3 R3 hd en bf ws rs rd PA PB hh ww) (ha : a < en.length) (hb : b < en.length) (hy : y = 0 ∨ y = 1) (K1 : a = b → post (.inl (some (mI (-12)))) σ) (K2 : y = 0 → post (.inl (some (mI (-13)))) σ) (K3 : ∀ σ', StC σ' B M ds an tx D3 o3 R3 hd en bf ws rs rd PA PB hh ww → kp4 σ σ' → post (.inl (some (mI 0))) σ')
    (K4 : ∀ σ' (w : EnT), a ≠ b → (enT w = enT (en.getD a enD) ∧ enP w = enP (en.getD a enD) ∧ enS w = enS (en.getD a enD) ∧ enK w = enK (en.getD a enD) ∧ enA w = enA (en.getD a enD)) → enL w = enL (en.getD a enD) → StC σ' B M ds an tx D3 o3 R3 hd (en.set a w) bf ws rs rd PA PB hh ww → kp4 σ σ' → post (.inl (some (mI 1))) σ') : Tr Ls (N + 1) 332 0 [some (mP (some 2)), some (mI 7), some (mI (a : Int)), some (mI (b : Int)), some (mI y), none] [] σ post := by
  refine s_on ?_
  have key : ∀ v : Int, v = y → Tr Ls 1 331 131 [some (mP (some 2)), some (mI 7), some (mI (a : Int)), some (mI (b : Int)), some (mI y)] [mI v, mI (b : Int), mI (a : Int), mP (some 2)] σ (onP post) := by
    intro v hv
    subst hv
    refine tr_vc1 (q := 2) rfl ⟨by decide, by decide +kernel⟩ rfl rfl rfl (q_140 (N := 0) h ha hb hy (fun g => tk_no rfl (Or.inr (Or.inl ⟨rfl, K1 g⟩))) (fun g => tk_no rfl (Or.inr (Or.inr ⟨rfl, K2 g⟩))) (fun σ' h' k' => ?_) (fun σ' w g1 g2 g3 h' k' => ?_))
    · repeat (refine tr_mv rfl (fun _ => rfl) ?_)
      exact tr_ri rfl rfl ⟨_, rfl, K3 σ' h' k'⟩
    · repeat (refine tr_mv rfl (fun _ => rfl) ?_)
      exact tr_ri rfl rfl ⟨_, rfl, K4 σ' w g1 g2 g3 h' k'⟩
  rcases hy with e | e
  · rw [e] at key ⊢
    repeat (refine tr_mv rfl (fun _ => rfl) ?_)
    exact key 0 rfl
  · rw [e] at key ⊢
    repeat (refine tr_mv rfl (fun _ => rfl) ?_)
    exact key 1 rfl
theorem p_8 (h : StC σ B M ds an tx D3 o3 R3 hd en bf ws rs rd PA PB hh ww) (ha : a < tx.length) (hy : y = 0 ∨ y = 1) (hj : in32 (j : Int)) (K1 : ¬ j < (lnsL ws rs rd (a : Int)).length → post (.inl (some (mI (-11)))) σ) (K2 : ∀ σ' (m : Nat), m < 30 → j < (lnsL ws rs rd (a : Int)).length → StC σ' B M ds an tx D3 o3 R3 hd en bf ws rs rd PA PB hh ww → kp4 σ σ' → post (.inl (some (mI (m : Int)))) σ') : Tr Ls (N + 1) 332 0 [some (mP (some 2)), some (mI 8), some (mI (a : Int)), some (mI y), some (mI (j : Int)), none] [] σ post := by
  refine s_on ?_
  have key : ∀ v : Int, v = y → Tr Ls 1 331 165 [some (mP (some 2)), some (mI 8), some (mI (a : Int)), some (mI y), some (mI (j : Int))] [mI (j : Int), mI v, mI (a : Int), mP (some 2)] σ (onP post) := by
    intro v hv
    subst hv
    refine tr_vc1 (q := 2) rfl ⟨by decide, by decide +kernel⟩ rfl rfl rfl (q_164 (N := 0) h ha hy hj (fun g => tk_no rfl (Or.inl ⟨rfl, K1 g⟩)) (fun σ' m g0 g1 h' k' => ?_))
    repeat (refine tr_mv rfl (fun _ => rfl) ?_)
    exact tr_ri rfl rfl ⟨_, rfl, K2 σ' m g0 g1 h' k'⟩
  rcases hy with e | e
  · rw [e] at key ⊢
    repeat (refine tr_mv rfl (fun _ => rfl) ?_)
    exact key 0 rfl
  · rw [e] at key ⊢
    repeat (refine tr_mv rfl (fun _ => rfl) ?_)
    exact key 1 rfl
theorem p_9 (h : StC σ B M ds an tx D3 o3 R3 hd en bf ws rs rd PA PB hh ww) (hX : X < 3) (hj : in32 (j : Int)) (K1 : ∀ σ', ¬ j < (ordE tx en (D3 X) (o3 X) X).length → StC σ' B M ds an tx D3 o3 R3 hd en bf ws rs rd PA PB hh ww → kp4 σ σ' → post (.inl (some (mI (-11)))) σ') (K2 : ∀ σ', j < (ordE tx en (D3 X) (o3 X) X).length → StC σ' B M ds an tx D3 o3 R3 hd en bf ws rs rd PA PB hh ww → kp4 σ σ' → post (.inl (some (mI (((ordE tx en (D3 X) (o3 X) X).getD j 0 : Nat) : Int)))) σ') : Tr Ls (N + 1) 332 0 [some (mP (some 2)), some (mI 9), some (mI (X : Int)), some (mI (j : Int)), some (mI z), none] [] σ post := by
  refine s_on ?_
  repeat (refine tr_mv rfl (fun _ => rfl) ?_)
  refine tr_vc1 (q := 2) rfl ⟨by decide, by decide +kernel⟩ rfl rfl rfl (q_157 (N := 0) h hX hj (fun σ' g h' k' => tk_no rfl (Or.inl ⟨rfl, K1 σ' g h' k'⟩)) (fun σ' g h' k' => ?_))
  repeat (refine tr_mv rfl (fun _ => rfl) ?_)
  exact tr_ri rfl rfl ⟨_, rfl, K2 σ' g h' k'⟩
theorem p_10 (h : StC σ B M ds an tx D3 o3 R3 hd en bf ws rs rd PA PB hh ww) (hX : X < 3) (hj : in32 (j : Int)) (K1 : ¬ j < (D3 X).1.length → post (.inl (some (mI (-11)))) σ) (K2 : j < (D3 X).1.length → post (.inl (some (mI (1000000 * (D3 X).2.1.getD j 0 + (D3 X).1.getD j 0)))) σ) : Tr Ls (N + 1) 332 0 [some (mP (some 2)), some (mI 10), some (mI (X : Int)), some (mI (j : Int)), some (mI z), none] [] σ post := by
  refine s_on ?_
  repeat (refine tr_mv rfl (fun _ => rfl) ?_)
  refine tr_vc1 (q := 2) rfl ⟨by decide, by decide +kernel⟩ rfl rfl rfl (q_150 (N := 0) h hX hj (fun g => tk_no rfl (Or.inl ⟨rfl, K1 g⟩)) (fun g => ?_))
  repeat (refine tr_mv rfl (fun _ => rfl) ?_)
  exact tr_ri rfl rfl ⟨_, rfl, K2 g⟩
theorem p_12 (h : StC σ B M ds an tx D3 o3 R3 hd en bf ws rs rd PA PB hh ww) (K1 : (ds = [] ∨ tx.length = 30) → post (.inl (some (mI (-13)))) σ)
    (K2 : ∀ σ', ds ≠ [] → tx.length < 30 → StC σ' B M [] an (tx ++ [apA B M ds]) D3 o3 R3 hd en bf ws rs rd PA PB hh ww → kp4 σ σ' → post (.inl (some (mI (tx.length : Int)))) σ') : Tr Ls (N + 1) 332 0 [some (mP (some 2)), some (mI 12), some (mI x), some (mI y), some (mI z), none] [] σ post := by
  refine s_on ?_
  repeat (refine tr_mv rfl (fun _ => rfl) ?_)
  refine tr_vc1 (q := 2) rfl ⟨by decide, by decide +kernel⟩ rfl rfl rfl (q_130 (N := 0) h (fun g => tk_no rfl (Or.inr (Or.inr ⟨rfl, K1 g⟩))) (fun σ' g1 g2 h' k' => ?_))
  exact tr_ri rfl rfl ⟨_, rfl, K2 σ' g1 g2 h' k'⟩
end ON
