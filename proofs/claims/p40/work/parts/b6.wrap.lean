/-! A call of the class under its guard, then the model's: what is owed of both. -/
section WRAP
variable {Ls N N1 N2 k pc n n' nn a b c q kd kM X : Nat} {L L0 : mLs} {st r as : List mV} {σ σ' σ1 σ2 : Sg} {post : tP} {x y z v : Int} {e : mE} {R : Nat → Prop} {C : Nat → Nat → Prop} {B M : Int → Int} {ds an ws rs PA PB : List Int} {tx : List (List Int)} {D3 : Nat → TD} {o3 : Nat → Nat → Int} {R3 : Nat → RuT} {hd : Nat → Int} {en : List EnT} {bf : Nat → List Nat} {rd : Nat → List Int} {hh ww : Int}
theorem tr_vc1 {j : Nat} (he : mPg.1 k pc = some (.invokevirtual j, 3, a, n, c)) (hq : isO q c) (hst : st[n]? = some (mP (some q))) (hm : mcall a (n + 1) st = some (.inr (.inl (a, as, r)))) (hent : mentry as (mPg.2.2.1 a) = L0) (hk : Tr Ls 1 a 0 L0 [] σ (tK Ls N k pc L r post)) : Tr Ls (N + 1) k pc L st σ post := by
  subst hent
  exact tr_virt (N1 := 1) (N2 := N) he hq hst hm hk (by omega)
theorem tr_stat1 {j : Nat} (he : mPg.1 k pc = some (.invokestatic j, 3, a, n, c)) (hm : mcall a n st = some (.inr (.inl (a, as, r)))) (hent : mentry as (mPg.2.2.1 a) = L0) (hk : Tr Ls 1 a 0 L0 [] σ (tK Ls N k pc L r post)) : Tr Ls (N + 1) k pc L st σ post := by
  subst hent
  exact tr_call (N1 := 1) (N2 := N) he (fun h hr => hm) hk (by omega)
theorem cCz_sc {q i : Nat} (g : cCz q i) : scM q i := by
  have := cCz_in g
  unfold scM
  omega
theorem only_0 (σ : Sg) (v : Int) : only (fun q i => q = 480 ∧ i = 0) σ (setF σ 480 0 v) := by
  have k1 : only (fun q i => q = 480 ∧ i = 0) σ (setF σ 480 0 v) := only.setF only.rf ⟨rfl, rfl⟩
  exact k1
theorem c0_sc {q i : Nat} (g : q = 480 ∧ i = 0) : scM q i := by
  unfold scM
  omega
theorem okSt.lens (h : okSt B M ds an tx D3 o3 R3 hd en bf ws rs rd PA PB hh ww) : tx.length ≤ 30 ∧ en.length ≤ 24 := ⟨h.2.2.2.1.1, h.2.2.2.2.2.1.1⟩
theorem okSt.rfs (h : okSt B M ds an tx D3 o3 R3 hd en bf ws rs rd PA PB hh ww) : okRf en := h.2.2.2.2.2.2.2.1
theorem okSt.lcs (h : okSt B M ds an tx D3 o3 R3 hd en bf ws rs rd PA PB hh ww) : ∀ e ∈ en, okLoc (enL e) (enM e) := h.2.2.2.2.2.2.1
theorem okSt.cos (h : okSt B M ds an tx D3 o3 R3 hd en bf ws rs rd PA PB hh ww) : okCo tx.length ws rs rd := h.2.2.2.2.2.2.2.2.2.1
theorem okSt.bfs (h : okSt B M ds an tx D3 o3 R3 hd en bf ws rs rd PA PB hh ww) : ∀ X, X < 3 → (bf X).length ≤ (ordE tx en (D3 X) (o3 X) X).length ∧ ∀ e ∈ bf X, e < 24 := h.2.2.2.2.2.2.2.2.1
theorem okSt.pns (h : okSt B M ds an tx D3 o3 R3 hd en bf ws rs rd PA PB hh ww) : okPins PA PB := h.2.2.2.2.2.2.2.2.2.2.1
theorem okSt.hws (h : okSt B M ds an tx D3 o3 R3 hd en bf ws rs rd PA PB hh ww) : (4 ≤ hh ∧ hh ≤ 40) ∧ 4 ≤ ww ∧ ww ≤ 40 := h.2.2.2.2.2.2.2.2.2.2.2
theorem okSt.ens (h : okSt B M ds an tx D3 o3 R3 hd en bf ws rs rd PA PB hh ww) : okEn tx en := h.2.2.2.2.2.1
theorem okSt.rus (h : okSt B M ds an tx D3 o3 R3 hd en bf ws rs rd PA PB hh ww) : ∀ X, X < 3 → okRu (D3 X) (R3 X) := h.2.2.2.2.1
theorem tk_ex {E pc' i : Nat} (he : mPg.2.1 k pc E = some (pc', i)) (hm : mok i L = true) (K : Tr Ls N k pc' (L.set i none) [] σ post) : tK Ls N k pc L r post (.inr E) σ := by
  unfold tK
  dsimp only
  rw [he]
  exact ⟨hm, K⟩
/-- one order put anew, all else kept -/
theorem cAll.ord (h : cAll σ B M ds an tx D3 o3 R3 hd en bf ws rs rd PA PB hh ww) (hl : tx.length ≤ 30) (he : en.length ≤ 24) (hX : X < 3) (hc : chg R C σ σ') (hR : ∀ a, R a → scR a ∨ a = (295 + 29 * X) + 1 ∨ a = (295 + 29 * X) + 3) (hC : ∀ q i, C q i → scC q i ∨ (i = 3 ∧ q = (295 + 29 * X))) (hO : cOrd σ' X tx en (D3 X) (o3 X)) : cAll σ' B M ds an tx D3 o3 R3 hd en bf ws rs rd PA PB hh ww := by
  obtain ⟨h1, ⟨h2, h2b⟩, h3, h4, h5, h6, h7, ⟨h8, h8b⟩, h9, h9b⟩ := h
  unfold scR at hR
  unfold scC at hC
  refine ⟨h1.of hc (fun q i g g2 => by have := hC q i g; omega), ⟨?_, ?_⟩, h3.of hc hl (fun a g g2 => by have := hR a g; omega) (fun g => by have := hC _ _ g; omega), h4.ord hX hc (fun a g g2 => by have := hR a g; omega) (fun q i g g2 => by have := hC q i g; omega) hO, h5.of hc (fun i g => by have := hC _ _ g; omega), h6.of hc he (fun a g g2 => by have := hR a g; omega) (fun g => by have := hC _ _ g; omega) (fun q i g g2 => by have := hC q i g; omega), h7.of hc (fun a g g2 => by have := hR a g; omega), ⟨?_, ?_⟩, ?_, ?_⟩
  · rw [hc.1 _ (fun g => by have := hR _ g; omega)]
    exact h2
  · rw [hc.1 _ (fun g => by have := hR _ g; omega)]
    exact h2b
  · rw [hc.1 _ (fun g => by have := hR _ g; omega)]
    exact h8
  · rw [hc.1 _ (fun g => by have := hR _ g; omega)]
    exact h8b
  · rw [hc.2 _ _ (fun g => by have := hC _ _ g; omega)]
    exact h9
  · rw [hc.2 _ _ (fun g => by have := hC _ _ g; omega)]
    exact h9b
/-! the texts put together -/
def tgS (B M : Int → Int) (tx : List (List Int)) : Nat → List Int := fun t => tog (cof B M) none (tx.getD t [])
theorem cG1.tg (h : cG1 σ B M) (hB : okBM B M) : cTg σ tx (tgS B M tx) := by
  obtain ⟨⟨h1, h2⟩, -⟩ := h
  unfold cTg
  rw [h1, h2]
  exact ⟨hB.2.2.1, hB.2.2.2.1, fun t _ => rfl⟩
theorem tgS_ok (hT : okTx tx) : okTg tx (tgS B M tx) := fun t ht => by
  obtain ⟨h1, h2, h3⟩ := okTx_get hT ht
  obtain ⟨k1, k2, -⟩ := tog_len (cof B M) (tx.getD t [])
  have h4 : tx.getD t [] ≠ [] := fun e => by rw [e] at h2; simp at h2
  exact ⟨k2 h4, Nat.le_trans k1 h3⟩
theorem noC_sc {q i : Nat} (g : noC q i) : scC q i := g.elim
theorem noR_sc {a : Nat} (g : noR a) : scR a := g.elim
theorem colR_sc {a : Nat} (g : colR a) : scR a := by
  unfold scR
  omega
theorem elC_sc {q i : Nat} (g : (q = 109 ∨ q = 120) ∧ i = 5) : scC q i := by
  unfold scC
  omega
theorem colC_sc {q i : Nat} (g : colC q i) : scC q i := by
  have h1 := g.1
  unfold isEl at h1
  unfold scC
  omega
theorem gpR_sc {a : Nat} (g : gpR a) : scR a := by
  unfold scR
  omega
theorem lnR_sc {a : Nat} (g : lnR a) : scR a := by
  unfold scR
  omega
theorem orR_sc {x a : Nat} (hx : x < 3) (g : orR x a) : scR a ∨ a = (295 + 29 * x) + 1 ∨ a = (295 + 29 * x) + 3 := by
  unfold scR
  omega
theorem orC_sc {x q i : Nat} (hx : x < 3) (g : orC x q i) : scC q i ∨ (i = 3 ∧ q = (295 + 29 * x)) := by
  unfold scC
  omega
theorem cLn_sc {q i : Nat} (g : cLn q i) : scM q i := by
  rcases g with g | g | g
  · have := cCz_in (Or.inl (Or.inl (Or.inl g)))
    unfold scM
    omega
  · unfold scM
    omega
  · unfold scM
    omega
theorem cGp_sc {q i : Nat} (g : cGp q i) : scM q i := by
  unfold scM
  omega
theorem only_two {C1 C2 : Nat → Nat → Prop} (h1 : only C1 σ σ1) (h2 : only C2 σ1 σ2) : only (fun q i => C1 q i ∨ C2 q i) σ σ2 := ⟨h2.1.trans h1.1, fun q i g => (h2.2 q i (fun g2 => g (Or.inr g2))).trans (h1.2 q i (fun g2 => g (Or.inl g2)))⟩
theorem lcR_sc {a : Nat} (g : lcR a) : scR a := by
  unfold scR
  omega
theorem inXE_of {en : List EnT} {i x : Int} {X a : Nat} (e1 : i = (X : Int)) (e2 : x = (a : Int)) (h1 : X < 3) (h2 : a < en.length) (h3 : inE en X a = true) : inXE en i x := by
  subst e1
  subst e2
  exact ⟨by omega, by omega, h3⟩
end WRAP
