/-! The class's calls, on its own side: what they answer where all is in range, what they leave. -/
def StC (σ : Sg) (B M : Int → Int) (ds an : List Int) (tx : List (List Int)) (D3 : Nat → TD) (o3 : Nat → Nat → Int) (R3 : Nat → RuT) (hd : Nat → Int) (en : List EnT) (bf : Nat → List Nat) (ws rs : List Int) (rd : Nat → List Int) (PA PB : List Int) (hh ww : Int) : Prop := okSt B M ds an tx D3 o3 R3 hd en bf ws rs rd PA PB hh ww ∧ cAll σ B M ds an tx D3 o3 R3 hd en bf ws rs rd PA PB hh ww
/-- the law's own cells stay -/
def kp4 (σ σ' : Sg) : Prop := ∀ q i, 480 ≤ q → σ'.2 q i = σ.2 q i
section OPS
variable {Ls N k pc n a b d X j : Nat} {L : mLs} {σ σ' σ1 σ2 : Sg} {post : tP} {i x y z v : Int} {B M : Int → Int} {ds an dA : List Int} {R : Nat → Prop} {C : Nat → Nat → Prop} {ws rs PA PB : List Int} {tx : List (List Int)} {D3 : Nat → TD} {o3 : Nat → Nat → Int} {R3 : Nat → RuT} {hd : Nat → Int} {en : List EnT} {bf : Nat → List Nat} {rd : Nat → List Int} {hh ww : Int} {D' : TD} {o' : Nat → Int} {R' : RuT}
theorem kp4.rf : kp4 σ σ := fun _ _ _ => rfl
theorem kp4.tr (h1 : kp4 σ σ1) (h2 : kp4 σ1 σ2) : kp4 σ σ2 := fun q i g => (h2 q i g).trans (h1 q i g)
theorem kp4.of (hc : chg R C σ σ') (hC : ∀ q i, C q i → q < 480) : kp4 σ σ' := fun q i g => hc.2 q i (fun g2 => by
  have := hC q i g2
  omega)
theorem nat32 (h : a < 1000000) : in32 (a : Int) := by omega
/-! what only asks -/
theorem q_147 (h : StC σ B M ds an tx D3 o3 R3 hd en bf ws rs rd PA PB hh ww) (K : post (.inl (some (mI (tx.length : Int)))) σ) : Tr Ls N 147 0 [some (mP (some 2))] [] σ post := s_147 h.2.2.2.1 K
theorem q_156 (h : StC σ B M ds an tx D3 o3 R3 hd en bf ws rs rd PA PB hh ww) (K : post (.inl (some (mI (en.length : Int)))) σ) : Tr Ls N 156 0 [some (mP (some 2))] [] σ post := s_156 h.2.2.2.2.2.2.1 K
theorem q_161 (h : StC σ B M ds an tx D3 o3 R3 hd en bf ws rs rd PA PB hh ww) (K : post (.inl (some (mI (deadC en : Int)))) σ) : Tr Ls N 161 0 [some (mP (some 2)), none, none] [] σ post := s_161 h.1.ens h.1.rfs h.2.2.2.2.2.2.1 K
theorem q_148a (h : StC σ B M ds an tx D3 o3 R3 hd en bf ws rs rd PA PB hh ww) (ha : a < tx.length) (hz : 0 ≤ z) (hz2 : in32 z) (K : post (.inl (some (mI (rget (tx.getD a []) z)))) σ) : Tr Ls N 148 0 [some (mP (some 2)), some (mI (a : Int)), some (mI 1), some (mI z)] [] σ post := by
  obtain ⟨hok, hc⟩ := h
  obtain ⟨hl, he⟩ := hok.lens
  obtain ⟨c1, c2, cT, c4, cH, cE, cC, c8, c9⟩ := id hc
  refine tr_nox (M := 1) (by decide) (s_148 (N := 0) hok.2.2.2.1 cT (c1.tg hok.1) (by omega) (Or.inr rfl) hz2 ?_ ?_ ?_)
  · intro g
    exfalso
    omega
  · intro a1 e1 h1 h2 h3
    obtain rfl : a1 = a := by omega
    exact ⟨⟨_, rfl⟩, K⟩
  · intro a1 e1 h1 h2 h3
    exfalso
    omega
theorem q_148t (h : StC σ B M ds an tx D3 o3 R3 hd en bf ws rs rd PA PB hh ww) (ha : a < tx.length) (hz : 0 ≤ z) (hz2 : in32 z) (K : ∀ σ', StC σ' B M ds an tx D3 o3 R3 hd en bf ws rs rd PA PB hh ww → kp4 σ σ' → post (.inl (some (mI (rget (tgS B M tx a) z)))) σ') : Tr Ls N 148 0 [some (mP (some 2)), some (mI (a : Int)), some (mI 0), some (mI z)] [] σ post := by
  obtain ⟨hok, hc⟩ := h
  obtain ⟨hl, he⟩ := hok.lens
  obtain ⟨c1, c2, cT, c4, cH, cE, cC, c8, c9⟩ := id hc
  refine tr_nox (M := 1) (by decide) (s_148 (N := 0) hok.2.2.2.1 cT (c1.tg hok.1) (by omega) (Or.inl rfl) hz2 ?_ ?_ ?_)
  · intro g
    exfalso
    omega
  · intro a1 e1 h1 h2 h3
    exfalso
    omega
  · intro a1 e1 h1 h2 h3
    obtain rfl : a1 = a := by omega
    exact ⟨⟨_, rfl⟩, K _ ⟨hok, hc.of hl he (chg.setR (R := fun r => r = 142) (C := noC) (xs := tgS B M tx a1) chg.rf rfl) (fun a g => by unfold scR; omega) (fun _ _ g => noC_sc g)⟩ (fun _ _ _ => rfl)⟩
theorem q_149 (h : StC σ B M ds an tx D3 o3 R3 hd en bf ws rs rd PA PB hh ww) (hX : X < 3) (K : post (.inl (some (mI ((R3 X).length : Int)))) σ) : Tr Ls N 149 0 [some (mP (some 2)), some (mI (X : Int))] [] σ post := by
  obtain ⟨hok, hc⟩ := h
  obtain ⟨c1, c2, cT, c4, cH, cE, cC, c8, c9⟩ := id hc
  refine tr_nox (M := 1) (by decide) (s_149 (N := 0) (fun X hX => ⟨c4.2.1 X hX, hok.rus X hX⟩) (by omega) ?_ ?_)
  · intro g
    exfalso
    omega
  · intro X1 e1 h1
    obtain rfl : X1 = X := by omega
    exact ⟨⟨_, rfl⟩, K⟩
/-- an item of the list, or too far -/
theorem q_150 (h : StC σ B M ds an tx D3 o3 R3 hd en bf ws rs rd PA PB hh ww) (hX : X < 3) (hj : in32 (j : Int)) (K1 : ¬ j < (D3 X).1.length → post (.inr 0) σ) (K2 : j < (D3 X).1.length → post (.inl (some (mI (1000000 * (D3 X).2.1.getD j 0 + (D3 X).1.getD j 0)))) σ) : Tr Ls (N + 1) 150 0 [some (mP (some 2)), some (mI (X : Int)), some (mI (j : Int))] [] σ post := by
  obtain ⟨hok, hc⟩ := h
  obtain ⟨c1, c2, cT, c4, cH, cE, cC, c8, c9⟩ := id hc
  refine s_150 c4.1 (by omega) hj ?_ ?_ ?_
  · intro g
    exfalso
    omega
  · intro X1 e1 h1 h2
    obtain rfl : X1 = X := by omega
    exact K1 (by omega)
  · intro X1 j1 e1 h1 e2 h2
    obtain rfl : X1 = X := by omega
    obtain rfl : j1 = j := by omega
    exact K2 h2
theorem q_152 (h : StC σ B M ds an tx D3 o3 R3 hd en bf ws rs rd PA PB hh ww) (hX : X < 3) (ha : a < tx.length) (h14 : 1 ≤ d ∧ d ≤ 4) (hz : 0 ≤ z) (hz2 : in32 z) (K : ∀ σ', StC σ' B M ds an tx D3 o3 R3 hd en bf ws rs rd PA PB hh ww → kp4 σ σ' → post (.inl (some (mI (rget (keyOf (D3 X) (o3 X) d (tx.getD a [])) z)))) σ') : Tr Ls N 152 0 [some (mP (some 2)), some (mI (X : Int)), some (mI (d : Int)), some (mI (a : Int)), some (mI z)] [] σ post := by
  obtain ⟨hok, hc⟩ := h
  obtain ⟨hl, he⟩ := hok.lens
  obtain ⟨c1, c2, cT, c4, cH, cE, cC, c8, c9⟩ := id hc
  refine tr_nox (M := 1) (by decide) (s_152 (N := 0) hok.2.2.2.1 cT c4.1 (by omega) (by omega) (by omega) hz2 ?_ ?_ ?_)
  · intro g
    exfalso
    omega
  · intro g1 g2
    exfalso
    omega
  · intro X1 a1 d1 σ' e1 e2 e3 h1 h2 h3 h4 ch
    obtain rfl : X1 = X := by omega
    obtain rfl : a1 = a := by omega
    obtain rfl : d1 = d := by omega
    exact ⟨⟨_, rfl⟩, K σ' ⟨hok, hc.of hl he ch (fun _ g => colR_sc g) (fun _ _ g => colC_sc g)⟩ (kp4.of ch (fun q i g => by have := g.1; unfold isEl at this; omega))⟩
theorem q_153 (h : StC σ B M ds an tx D3 o3 R3 hd en bf ws rs rd PA PB hh ww) (hX : X < 3) (ha : a < tx.length) (hb : b < tx.length) (h14 : 1 ≤ d ∧ d ≤ 4) (K : ∀ σ', StC σ' B M ds an tx D3 o3 R3 hd en bf ws rs rd PA PB hh ww → kp4 σ σ' → post (.inl (some (mI (cmpL (keyOf (D3 X) (o3 X) d (tx.getD a [])) (keyOf (D3 X) (o3 X) d (tx.getD b [])))))) σ') : Tr Ls N 153 0 [some (mP (some 2)), some (mI (X : Int)), some (mI (d : Int)), some (mI (a : Int)), some (mI (b : Int))] [] σ post := by
  obtain ⟨hok, hc⟩ := h
  obtain ⟨hl, he⟩ := hok.lens
  obtain ⟨c1, c2, cT, c4, cH, cE, cC, c8, c9⟩ := id hc
  refine tr_nox (M := 1) (by decide) (s_153 (N := 0) hok.2.2.2.1 cT c4.1 (by omega) (by omega) (by omega) (by omega) ?_ ?_ ?_)
  · intro g
    exfalso
    omega
  · intro g1 g2
    exfalso
    omega
  · intro X1 a1 b1 d1 σ' e1 e2 e4 e3 h1 h2 h5 h3 ch
    obtain rfl : X1 = X := by omega
    obtain rfl : a1 = a := by omega
    obtain rfl : b1 = b := by omega
    obtain rfl : d1 = d := by omega
    exact ⟨⟨_, rfl⟩, K σ' ⟨hok, hc.of hl he ch (fun _ g => colR_sc g) (fun _ _ g => colC_sc g)⟩ (kp4.of ch (fun q i g => by have := g.1; unfold isEl at this; omega))⟩
theorem q_154 (h : StC σ B M ds an tx D3 o3 R3 hd en bf ws rs rd PA PB hh ww) (hX : X < 3) (ha : a < tx.length) (hb : b < tx.length) (h14 : 1 ≤ d ∧ d ≤ 4) (K : ∀ σ', StC σ' B M ds an tx D3 o3 R3 hd en bf ws rs rd PA PB hh ww → kp4 σ σ' → post (.inl (some (mI (cmpL (keyOf (D3 X) (o3 X) d (tx.getD a [])) (keyOf (D3 X) (o3 X) d (tx.getD b [])))))) σ') : Tr Ls N 154 0 [some (mP (some 2)), some (mI (X : Int)), some (mI (d : Int)), some (mI (a : Int)), some (mI (b : Int))] [] σ post := by
  obtain ⟨hok, hc⟩ := h
  obtain ⟨hl, he⟩ := hok.lens
  obtain ⟨c1, c2, cT, c4, cH, cE, cC, c8, c9⟩ := id hc
  refine tr_nox (M := 1) (by decide) (s_154 (N := 0) hok.2.2.2.1 cT c4.1 (by omega) (by omega) (by omega) (by omega) ?_ ?_ ?_)
  · intro g
    exfalso
    omega
  · intro g1 g2
    exfalso
    omega
  · intro X1 a1 b1 d1 σ' e1 e2 e4 e3 h1 h2 h5 h3 ch
    obtain rfl : X1 = X := by omega
    obtain rfl : a1 = a := by omega
    obtain rfl : b1 = b := by omega
    obtain rfl : d1 = d := by omega
    exact ⟨⟨_, rfl⟩, K σ' ⟨hok, hc.of hl he ch (fun _ g => colR_sc g) (fun _ _ g => colC_sc g)⟩ (kp4.of ch (fun q i g => by have := g.1; unfold isEl at this; omega))⟩
/-- an entry of the order, or too far -/
theorem q_157 (h : StC σ B M ds an tx D3 o3 R3 hd en bf ws rs rd PA PB hh ww) (hX : X < 3) (hj : in32 (j : Int)) (K1 : ∀ σ', ¬ j < (ordE tx en (D3 X) (o3 X) X).length → StC σ' B M ds an tx D3 o3 R3 hd en bf ws rs rd PA PB hh ww → kp4 σ σ' → post (.inr 0) σ') (K2 : ∀ σ', j < (ordE tx en (D3 X) (o3 X) X).length → StC σ' B M ds an tx D3 o3 R3 hd en bf ws rs rd PA PB hh ww → kp4 σ σ' → post (.inl (some (mI (((ordE tx en (D3 X) (o3 X) X).getD j 0 : Nat) : Int)))) σ') : Tr Ls (N + 1) 157 0 [some (mP (some 2)), some (mI (X : Int)), some (mI (j : Int))] [] σ post := by
  obtain ⟨hok, hc⟩ := h
  obtain ⟨hl, he⟩ := hok.lens
  obtain ⟨c1, c2, cT, c4, cH, cE, cC, c8, c9⟩ := id hc
  refine s_157 hok.2.2.2.1 hok.ens cT cE c4.1 (by omega) hj ?_ ?_ ?_
  · intro σ' g
    exfalso
    omega
  · intro X1 σ' e1 h1 g1 f9 ch
    obtain rfl : X1 = X := by omega
    refine K1 σ' (by omega) ⟨hok, ?_⟩ (kp4.of ch (fun q i g => by omega))
    exact f9.elim (fun e => by rw [e]; exact hc) (fun f => hc.ord hl he h1 ch (fun _ g => orR_sc h1 g) (fun _ _ g => orC_sc h1 g) (Or.inr f))
  · intro X1 j1 σ' e1 h1 e2 h2 f1 f2 f3 ch
    obtain rfl : X1 = X := by omega
    obtain rfl : j1 = j := by omega
    exact K2 σ' h2 ⟨hok, hc.ord hl he h1 ch (fun _ g => orR_sc h1 g) (fun _ _ g => orC_sc h1 g) (Or.inr ⟨f1, f2, f3⟩)⟩ (kp4.of ch (fun q i g => by omega))
theorem q_158 (h : StC σ B M ds an tx D3 o3 R3 hd en bf ws rs rd PA PB hh ww) (hX : X < 3) (ha : a < en.length) (hi : inE en X a = true) (K : ∀ σ', StC σ' B M ds an tx D3 o3 R3 hd en bf ws rs rd PA PB hh ww → kp4 σ σ' → post (.inl (some (mI (hdgE tx en (D3 X) (o3 X) hd (mnO (prE en) a))))) σ') : Tr Ls N 158 0 [some (mP (some 2)), some (mI (X : Int)), some (mI (a : Int))] [] σ post := by
  obtain ⟨hok, hc⟩ := h
  obtain ⟨hl, he⟩ := hok.lens
  obtain ⟨c1, c2, cT, c4, cH, cE, cC, c8, c9⟩ := id hc
  refine tr_nox (M := 1) (by decide) (s_158 (N := 0) hok.2.2.2.1 hok.ens cT cE c4.1 cH (by omega) (by omega) ?_ ?_)
  · intro g
    exact absurd ⟨by omega, by omega, hi⟩ g
  · intro X1 a1 σ' e1 e2 h1 h2 h3 f1 f2 f3 ch
    obtain rfl : X1 = X := by omega
    obtain rfl : a1 = a := by omega
    exact ⟨⟨_, rfl⟩, K σ' ⟨hok, hc.ord hl he h1 ch (fun _ g => orR_sc h1 g) (fun _ _ g => orC_sc h1 g) (Or.inr ⟨f1, f2, f3⟩)⟩ (kp4.of ch (fun q i g => by omega))⟩
theorem q_159 (h : StC σ B M ds an tx D3 o3 R3 hd en bf ws rs rd PA PB hh ww) (ha : a < en.length) (hj : in32 (j : Int)) (K : ∀ σ', StC σ' B M ds an tx D3 o3 R3 hd en bf ws rs rd PA PB hh ww → kp4 σ σ' → post (.inl (some (mI (if j < (grpL (enL (en.getD a enD))).length then gnum ((grpL (enL (en.getD a enD))).getD j (0, 0, 0)) else -1)))) σ') : Tr Ls N 159 0 [some (mP (some 2)), some (mI (a : Int)), some (mI (j : Int))] [] σ post := by
  obtain ⟨hok, hc⟩ := h
  obtain ⟨hl, he⟩ := hok.lens
  obtain ⟨c1, c2, cT, c4, cH, cE, cC, c8, c9⟩ := id hc
  refine tr_nox (M := 1) (by decide) (s_159 (N := 0) he cE hok.lcs (by omega) hj ?_ ?_ ?_)
  · intro g
    exfalso
    omega
  · intro a1 σ' e1 h1 h2 g1 ch
    obtain rfl : a1 = a := by omega
    refine ⟨⟨_, rfl⟩, ?_⟩
    have := K σ' ⟨hok, hc.of hl he ch (fun _ g => gpR_sc g) (fun _ _ g => noC_sc g)⟩ (kp4.of ch (fun q i g => g.elim))
    rw [if_neg (by omega)] at this
    exact this
  · intro a1 j1 σ' e1 h1 e2 h2 ch
    obtain rfl : a1 = a := by omega
    obtain rfl : j1 = j := by omega
    refine ⟨⟨_, rfl⟩, ?_⟩
    have := K σ' ⟨hok, hc.of hl he ch (fun _ g => gpR_sc g) (fun _ _ g => noC_sc g)⟩ (kp4.of ch (fun q i g => g.elim))
    rw [if_pos h2] at this
    exact this
theorem q_160 (h : StC σ B M ds an tx D3 o3 R3 hd en bf ws rs rd PA PB hh ww) (hi : 0 ≤ i ∧ i < (en.length : Int)) (K : post (.inl (some (mI (endE en i)))) σ) : Tr Ls N 160 0 [some (mP (some 2)), some (mI i)] [] σ post := by
  obtain ⟨hok, hc⟩ := h
  obtain ⟨hl, he⟩ := hok.lens
  obtain ⟨c1, c2, cT, c4, cH, cE, cC, c8, c9⟩ := id hc
  refine tr_nox (M := 1) (by decide) (s_160 (N := 0) hok.ens hok.rfs cE (by omega) (fun g => absurd hi g) (fun _ => ⟨⟨_, rfl⟩, K⟩))
theorem q_162 (h : StC σ B M ds an tx D3 o3 R3 hd en bf ws rs rd PA PB hh ww) (hX : X < 3) (K : ∀ σ', StC σ' B M ds an tx D3 o3 R3 hd en bf ws rs rd PA PB hh ww → kp4 σ σ' → post (.inl (some (mI (dif (ci (ordE tx en (D3 X) (o3 X) X)) (ci (bf X)) (bf X).length : Int)))) σ') : Tr Ls N 162 0 [some (mP (some 2)), some (mI (X : Int)), none, none, none, none] [] σ post := by
  obtain ⟨hok, hc⟩ := h
  obtain ⟨hl, he⟩ := hok.lens
  obtain ⟨c1, c2, cT, c4, cH, cE, cC, c8, c9⟩ := id hc
  refine tr_nox (M := 1) (by decide) (s_162 (N := 0) hok.2.2.2.1 hok.ens cT cE c4.1 (by omega) (fun X hX => ⟨c4.2.2 X hX, hok.bfs X hX⟩) ?_ ?_)
  · intro g
    exfalso
    omega
  · intro X1 σ' e1 h1 f1 f2 f3 ch
    obtain rfl : X1 = X := by omega
    exact ⟨⟨_, rfl⟩, K σ' ⟨hok, hc.ord hl he h1 ch (fun _ g => orR_sc h1 g) (fun _ _ g => orC_sc h1 g) (Or.inr ⟨f1, f2, f3⟩)⟩ (kp4.of ch (fun q i g => by omega))⟩
theorem q_163 (h : StC σ B M ds an tx D3 o3 R3 hd en bf ws rs rd PA PB hh ww) (hX : X < 3) (ha : a < en.length) (hi : inE en X a = true) (K : ∀ σ', StC σ' B M ds an tx D3 o3 R3 hd en bf ws rs rd PA PB hh ww → kp4 σ σ' → post (.inl (some (mI (colE tx en (D3 X) (o3 X) hd (tgS B M tx) hh ww X a)))) σ') : Tr Ls N 163 0 [some (mP (some 2)), some (mI (X : Int)), some (mI (a : Int))] [] σ post := by
  obtain ⟨hok, hc⟩ := h
  obtain ⟨hl, he⟩ := hok.lens
  obtain ⟨c1, c2, cT, c4, cH, cE, cC, c8, c9⟩ := id hc
  refine tr_nox (M := 1) (by decide) (s_163 (N := 0) c9.2 hok.hws.1 c9.1 hok.hws.2 hok.2.2.2.1 hok.ens cT cE hok.lcs c4.1 cH (c1.tg hok.1) (tgS_ok hok.2.2.2.1) (by omega) (by omega) ?_ ?_)
  · intro g
    exact absurd ⟨by omega, by omega, hi⟩ g
  · intro X1 a1 σ' e1 e2 h1 h2 h3 f1 f2 f3 ch
    obtain rfl : X1 = X := by omega
    obtain rfl : a1 = a := by omega
    exact ⟨⟨_, rfl⟩, K σ' ⟨hok, hc.ord hl he h1 ch (fun _ g => g.elim (orR_sc h1) (fun g => Or.inl (lcR_sc g))) (fun _ _ g => orC_sc h1 g) (Or.inr ⟨f1, f2, f3⟩)⟩ (kp4.of ch (fun q i g => by omega))⟩
/-- a line of a lemma, or too far -/
theorem q_164 (h : StC σ B M ds an tx D3 o3 R3 hd en bf ws rs rd PA PB hh ww) (ha : a < tx.length) (hy : y = 0 ∨ y = 1) (hj : in32 (j : Int)) (K1 : ¬ j < (lnsL ws rs rd (a : Int)).length → post (.inr 0) σ) (K2 : ∀ σ' (m : Nat), m < 30 → j < (lnsL ws rs rd (a : Int)).length → StC σ' B M ds an tx D3 o3 R3 hd en bf ws rs rd PA PB hh ww → kp4 σ σ' → post (.inl (some (mI (m : Int)))) σ') : Tr Ls (N + 1) 164 0 [some (mP (some 2)), some (mI (a : Int)), some (mI y), some (mI (j : Int))] [] σ post := by
  obtain ⟨hok, hc⟩ := h
  obtain ⟨hl, he⟩ := hok.lens
  obtain ⟨c1, c2, cT, c4, cH, cE, cC, c8, c9⟩ := id hc
  refine s_164 hok.2.2.2.1 cT (c4.1 0 (by decide)).1 (c4.1 0 (by decide)).2.1 (c4.1 0 (by decide)).2.2.1 hok.cos cC (by omega) hy hj ?_ ?_
  · intro g
    exact K1 (by omega)
  · intro j1 σ' h1 e1 h2 ch
    obtain rfl : j1 = j := by omega
    refine K2 σ' _ ?_ h2 ⟨hok, hc.of hl he ch (fun _ g => lnR_sc g) (fun _ _ g => elC_sc g)⟩ (kp4.of ch (fun q i g => by omega))
    have hlen := ordW_len (kt3 tx (D3 0) (o3 0)) ws (if y = 1 then -1 else 1) (lnsL ws rs rd (a : Int)) []
    have hm : (lnO tx (D3 0) (o3 0) ws rs rd (a : Int) y).getD j1 0 ∈ lnO tx (D3 0) (o3 0) ws rs rd (a : Int) y := by
      have hj1 : j1 < (lnO tx (D3 0) (o3 0) ws rs rd (a : Int) y).length := by
        show j1 < ((lnsL ws rs rd (a : Int)).foldl (insW (kt3 tx (D3 0) (o3 0)) ws (if y = 1 then -1 else 1)) []).length
        rw [hlen, List.length_nil]
        omega
      rw [List.getD_eq_getElem?_getD, List.getElem?_eq_getElem hj1]
      exact List.getElem_mem hj1
    have h3 := (mem_ordW _ _ _).mp hm
    rcases h3 with h3 | h3
    · exact absurd h3 List.not_mem_nil
    · have h4 := List.mem_range.mp (List.mem_filter.mp h3).1
      have h5 := hok.cos.1
      omega
/-! what tells -/
theorem q_128 (h : StC σ B M ds an tx D3 o3 R3 hd en bf ws rs rd PA PB hh ww) (hx : in32 x) (K1 : ¬ isSg B x → post (.inr 0) σ) (K2 : isSg B x → ds.length = 10 → post (.inr 2) σ)
    (K3 : ∀ σ', isSg B x → ds.length < 10 → StC σ' B M (ds ++ [x]) an tx D3 o3 R3 hd en bf ws rs rd PA PB hh ww → kp4 σ σ' → post (.inl (some (mI ((ds.length : Int) + 1)))) σ') : Tr Ls (N + 1) 128 0 [some (mP (some 2)), some (mI x)] [] σ post := by
  obtain ⟨hok, hc⟩ := h
  obtain ⟨hl, he⟩ := hok.lens
  obtain ⟨c1, c2, cT, c4, cH, cE, cC, c8, c9⟩ := id hc
  refine s_128 c1.1 hok.1 c2.1 hok.2.1.1 hx K1 K2 ?_
  intro g1 g3
  refine K3 _ g1 g3 ⟨?_, ?_⟩ (fun _ _ _ => rfl)
  · exact ⟨hok.1, ⟨by rw [List.length_append, List.length_singleton]; omega, fun s hs => (List.mem_append.mp hs).elim (hok.2.1.2 s) (fun g => by rw [List.mem_singleton.mp g]; exact (isSg_iff hok.1).mp g1)⟩, hok.2.2⟩
  · exact hc.dfs hl he (chg.setR (R := fun r => r = 6) (C := noC) chg.rf rfl) (fun a g => Or.inr (Or.inl g)) (fun q i g => g.elim) (setR_same ..) ((setR_ne _ _ (by decide)).trans c2.2)
theorem q_129 (h : StC σ B M ds an tx D3 o3 R3 hd en bf ws rs rd PA PB hh ww) (hi : in32 i) (hx : in32 x) (hy : in32 y) (K1 : post (.inr 0) σ) (K2 : post (.inr 2) σ)
    (K3 : ∀ σ', cmOk B i x y → B i = -1 → cof B M x y = -1 → StC σ' (fUp B i x) (fUp M i y) ds an tx D3 o3 R3 hd en bf ws rs rd PA PB hh ww → kp4 σ σ' → post (.inl (some (mI ((cnB B 8 : Int) + 1)))) σ') : Tr Ls (N + 1) 129 0 [some (mP (some 2)), some (mI i), some (mI x), some (mI y)] [] σ post := by
  obtain ⟨hok, hc⟩ := h
  obtain ⟨hl, he⟩ := hok.lens
  obtain ⟨c1, c2, cT, c4, cH, cE, cC, c8, c9⟩ := id hc
  refine s_129 c1.1 hok.1 c1.2 hi hx hy (fun _ => K1) (fun _ _ => K2) ?_
  intro g1 g3 g5
  have x2 := (cmOk_x hok.1 g1).2
  have hi4 : 0 ≤ i ∧ i < 48 := by have := g1.1; omega
  have hok2 : okSt (fUp B i x) (fUp M i y) ds an tx D3 o3 R3 hd en bf ws rs rd PA PB hh ww := ⟨okBM_up hok.1 g1 g3 g5 hx hy, ⟨hok.2.1.1, fun s hs => okS_up x2 (hok.2.1.2 s hs)⟩, hok.2.2⟩
  have hch : chg noR (fun q _ => 3 ≤ q ∧ q ≤ 5) σ (setF (setF (setF σ 4 i.toNat x) 5 i.toNat y) 3 2 ((cnB B 8 : Int) + 1)) := by
    have k1 : chg noR (fun q _ => 3 ≤ q ∧ q ≤ 5) σ (setF σ 4 i.toNat x) := chg.setF chg.rf ⟨by decide, by decide⟩
    have k2 : chg noR (fun q _ => 3 ≤ q ∧ q ≤ 5) σ (setF (setF σ 4 i.toNat x) 5 i.toNat y) := chg.setF k1 ⟨by decide, by decide⟩
    exact chg.setF k2 ⟨by decide, by decide⟩
  have hcn : (cnB (fUp B i x) 8 : Int) = (cnB B 8 : Int) + 1 := by
    rw [cnB_up g1.1.1 g3 x2 8, if_pos (by have := g1.1; omega)]
    omega
  have hc2 : cAll (setF (setF (setF σ 4 i.toNat x) 5 i.toNat y) 3 2 ((cnB B 8 : Int) + 1)) (fUp B i x) (fUp M i y) ds an tx D3 o3 R3 hd en bf ws rs rd PA PB hh ww := hc.mix hl he hch (fun a g => g.elim) (fun q j g => Or.inr (Or.inl g)) ⟨⟨by rw [bOf_up hi4, c1.1.1], by rw [kOf_up hi4, c1.1.2]⟩, by rw [hcn]; exact setF_same ..⟩ (cH.of hch (fun j g => by omega)) (cC.of hch (fun a g => g.elim)) c8 ⟨(hch.2 _ _ (by omega)).trans c9.1, (hch.2 _ _ (by omega)).trans c9.2⟩
  exact K3 _ g1 g3 g5 ⟨hok2, hc2⟩ (kp4.of hch (fun q i g => by omega))
theorem q_130 (h : StC σ B M ds an tx D3 o3 R3 hd en bf ws rs rd PA PB hh ww) (K1 : (ds = [] ∨ tx.length = 30) → post (.inr 2) σ)
    (K2 : ∀ σ', ds ≠ [] → tx.length < 30 → StC σ' B M [] an (tx ++ [apA B M ds]) D3 o3 R3 hd en bf ws rs rd PA PB hh ww → kp4 σ σ' → post (.inl (some (mI (tx.length : Int)))) σ') : Tr Ls (N + 1) 130 0 [some (mP (some 2))] [] σ post := by
  obtain ⟨hok, hc⟩ := h
  obtain ⟨hl, he⟩ := hok.lens
  have hE := hok.ens
  have hT : okTx tx := hok.2.2.2.1
  obtain ⟨c1, c2, cT, c4, cH, cE, cC, c8, c9⟩ := id hc
  have hd2 := okDr_apA hok.1.1 hok.2.1.2 hok.2.1.1
  refine s_130 (c1.dr c2.1 hok.1) hd2 hT cT K1 ?_
  intro σ' g1 g3 cT' f6 ch
  have hne : apA B M ds ≠ [] := fun c => g1 (hd2.2.2.2.mp c)
  have h1l : 1 ≤ (apA B M ds).length := List.length_pos_iff.mpr hne
  have hok2 : okSt B M [] an (tx ++ [apA B M ds]) D3 o3 R3 hd en bf ws rs rd PA PB hh ww := ⟨hok.1, ⟨Nat.zero_le _, fun s hs => (List.not_mem_nil hs).elim⟩, hok.2.2.1, okTx_snoc hT g3 hd2.2.2.1 h1l hd2.2.1, hok.rus, okEn_tx hE, hok.lcs, hok.rfs, fun X hX => by rw [ordE_tx hE]; exact hok.bfs X hX, okCo_tx hok.cos (by rw [List.length_append]; omega), hok.pns, hok.hws⟩
  have hc2 : cAll σ' B M [] an (tx ++ [apA B M ds]) D3 o3 R3 hd en bf ws rs rd PA PB hh ww := hc.txs hE ch (fun a g => by unfold scR; omega) (fun q i g => Or.inr g) f6 cT'
  exact K2 σ' g1 g3 ⟨hok2, hc2⟩ (kp4.of ch (fun q i g => by omega))
theorem q_131 (h : StC σ B M ds an tx D3 o3 R3 hd en bf ws rs rd PA PB hh ww) (K : ∀ σ', StC σ' B M [] an tx D3 o3 R3 hd en bf ws rs rd PA PB hh ww → kp4 σ σ' → post (.inl (some (mI (ds.length : Int)))) σ') : Tr Ls N 131 0 [some (mP (some 2)), none] [] σ post := by
  obtain ⟨hok, hc⟩ := h
  obtain ⟨hl, he⟩ := hok.lens
  obtain ⟨c1, c2, cT, c4, cH, cE, cC, c8, c9⟩ := id hc
  refine s_131 c2.1 (K _ ⟨⟨hok.1, ⟨Nat.zero_le _, fun s hs => (List.not_mem_nil hs).elim⟩, hok.2.2⟩, ?_⟩ (fun _ _ _ => rfl))
  exact hc.dfs hl he (chg.setR (R := fun r => r = 6) (C := noC) chg.rf rfl) (fun a g => Or.inr (Or.inl g)) (fun q i g => g.elim) (setR_same ..) ((setR_ne _ _ (by decide)).trans c2.2)
theorem q_132 (h : StC σ B M ds an tx D3 o3 R3 hd en bf ws rs rd PA PB hh ww) (hne : ds ≠ []) (K : ∀ σ', StC σ' B M [] (apA B M ds) tx D3 o3 R3 hd en bf ws rs rd PA PB hh ww → kp4 σ σ' → post (.inl (some (mI ((apA B M ds).length : Int)))) σ') : Tr Ls N 132 0 [some (mP (some 2))] [] σ post := by
  obtain ⟨hok, hc⟩ := h
  obtain ⟨hl, he⟩ := hok.lens
  obtain ⟨c1, c2, cT, c4, cH, cE, cC, c8, c9⟩ := id hc
  have hd2 := okDr_apA hok.1.1 hok.2.1.2 hok.2.1.1
  refine tr_nox (M := 1) (by decide) (s_132 (N := 0) (c1.dr c2.1 hok.1) hd2 (fun g => absurd g hne) ?_)
  intro g1
  have hch : chg (fun r => r = 6 ∨ r = 8) noC σ (setR (setR σ 8 (apA B M ds)) 6 []) := by
    have k1 : chg (fun r => r = 6 ∨ r = 8) noC σ (setR σ 8 (apA B M ds)) := chg.setR chg.rf (Or.inr rfl)
    exact chg.setR k1 (Or.inl rfl)
  have hok2 : okSt B M [] (apA B M ds) tx D3 o3 R3 hd en bf ws rs rd PA PB hh ww := ⟨hok.1, ⟨Nat.zero_le _, fun s hs => (List.not_mem_nil hs).elim⟩, ⟨hd2.2.1, hd2.2.2.1⟩, hok.2.2.2⟩
  exact ⟨⟨_, rfl⟩, K _ ⟨hok2, hc.dfs hl he hch (fun a g => Or.inr g) (fun q i g => g.elim) (setR_same ..) ((setR_ne _ _ (by decide)).trans (setR_same ..))⟩ (fun _ _ _ => rfl)⟩
theorem q_133 (h : StC σ B M ds an tx D3 o3 R3 hd en bf ws rs rd PA PB hh ww) (hX : X < 3) (hx : 0 ≤ x ∧ x ≤ 7) (K1 : ∀ σ', StC σ' B M ds an tx D3 o3 R3 hd en bf ws rs rd PA PB hh ww → kp4 σ σ' → post (.inr 2) σ')
    (K2 : ∀ σ' (D' : TD) (R' : RuT) (b' : List Nat), R'.length = (R3 X).length + 1 → StC σ' B M [] [] tx (upf D3 X D') o3 (upf R3 X R') hd en (upf bf X b') ws rs rd PA PB hh ww → kp4 σ σ' → post (.inl (some (mI ((R3 X).length + 1 : Int)))) σ') : Tr Ls (N + 1) 133 0 [some (mP (some 2)), some (mI (X : Int)), some (mI x), none, none, none] [] σ post := by
  obtain ⟨hok, hc⟩ := h
  obtain ⟨hl, he⟩ := hok.lens
  have hE := hok.ens
  have hT : okTx tx := hok.2.2.2.1
  have hru := hok.rus
  obtain ⟨ha2, ha40⟩ := hok.2.2.1
  obtain ⟨c1, c2, cT, c4, cH, cE, cC, c8, c9⟩ := id hc
  have hd2 := okDr_apA hok.1.1 hok.2.1.2 hok.2.1.1
  refine s_133 hT hE cT cE c4.1 (fun X hX => ⟨c4.2.1 X hX, hru X hX⟩) (c1.dr c2.1 hok.1) hd2 c2.2 ha2 ha40 (by omega) (by omega) ?_ ?_ ?_ ?_
  · intro g1
    exfalso
    omega
  · intro g1 g3
    exact absurd hx g3
  · intro X1 σ' e1 hX1 g1 g3 ch
    exact K1 σ' ⟨hok, hc.of hl he ch (fun a g => by unfold scR; omega) (fun _ _ g => noC_sc g)⟩ (kp4.of ch (fun q i g => g.elim))
  · intro X1 σ' e1 hX1 g1 g3 k2 k4 f6 f8 k5 k6 ch
    obtain rfl : X1 = X := by omega
    have hq := canTell_iff.mp g3
    have han : okCd (cdC an) := by
      rcases cdC_ok ha40 with k | k
      · exact absurd k hq.2.1
      · exact k
    have hit : okCd (cdC (apA B M ds)) := by
      rcases cdC_ok hd2.2.2.1 with k | k
      · have k9 := hq.2.2.2.1.1
        rw [k] at k9
        exact absurd k9 (by decide +kernel)
      · exact k
    obtain ⟨w1, w2, w3, w4, w5⟩ := okRu_tell (c4.1 X1 hX1).1 (hru X1 hX1) g1 hq han hit
    have hok2 := (hok.noDs).tl (o' := o3 X1) hX1 (Or.inr trivial) w5
    have h4 : cG4 σ' tx en (upf D3 X1 (tellD (D3 X1) x (cdC an) (cdC (apA B M ds)))) (upf o3 X1 (o3 X1)) (upf R3 X1 (R3 X1 ++ [(x, cdC an, cdC (apA B M ds))])) (upf bf X1 (ordE tx en (D3 X1) (o3 X1) X1)) := c4.upX hX1 ch (fun a g g2 => by omega) (fun q j g g2 => by omega) w4 k2 ((c4.1 X1 hX1).2.2.1.of ch (fun j g => by omega)) k4 k5 k6
    have hc2 := hc.tl hl he ch (fun a g => by unfold scR; omega) (fun q j g => by unfold scC; omega) f6 f8 h4
    rw [upf_id] at hok2 hc2
    exact K2 σ' _ _ _ (by rw [List.length_append, List.length_singleton]) ⟨hok2, hc2⟩ (kp4.of ch (fun q i g => by omega))
theorem q_135 (h : StC σ B M ds an tx D3 o3 R3 hd en bf ws rs rd PA PB hh ww) (hX : X < 3) (hj : j < 3) (hy : y = 0 ∨ y = 1) (K : ∀ σ', StC σ' B M ds an tx D3 (upf o3 X (oU (o3 X) j y)) R3 hd en (upf bf X (ordE tx en (D3 X) (o3 X) X)) ws rs rd PA PB hh ww → kp4 σ σ' → post (.inl (some (mI (b2 (o3 X j = 1))))) σ') : Tr Ls N 135 0 [some (mP (some 2)), some (mI (X : Int)), some (mI (j : Int)), some (mI y), none] [] σ post := by
  obtain ⟨hok, hc⟩ := h
  obtain ⟨hl, he⟩ := hok.lens
  have hE := hok.ens
  have hT : okTx tx := hok.2.2.2.1
  have hru := hok.rus
  obtain ⟨c1, c2, cT, c4, cH, cE, cC, c8, c9⟩ := id hc
  refine tr_nox (M := 1) (by decide) (s_135 (N := 0) hT hE cT cE c4.1 (by omega) (by omega) hy ?_ ?_)
  · intro g
    exfalso
    omega
  · intro X1 j1 σ' e1 e3 hX1 hj1 k3 k2 k5 k6 ch
    obtain rfl : X1 = X := by omega
    obtain rfl : j1 = j := by omega
    have hok2 := hok.tl (D' := D3 X1) (R' := R3 X1) (o' := oU (o3 X1) j1 y) hX1 (Or.inr trivial) (hru X1 hX1)
    have h4 : cG4 σ' tx en (upf D3 X1 (D3 X1)) (upf o3 X1 (oU (o3 X1) j1 y)) (upf R3 X1 (R3 X1)) (upf bf X1 (ordE tx en (D3 X1) (o3 X1) X1)) := c4.upX hX1 ch (fun a g g2 => by omega) (fun q l g g2 => by omega) (c4.1 X1 hX1).1 k2 k3 ((c4.2.1 X1 hX1).of ch (fun a g g2 => by omega)) k5 k6
    have hc2 := hc.tl hl he ch (fun a g => by unfold scR; omega) (fun q l g => by unfold scC; omega) ((ch.1 6 (by omega)).trans c2.1) ((ch.1 8 (by omega)).trans c2.2) h4
    rw [upf_id, upf_id] at hok2 hc2
    exact ⟨⟨_, rfl⟩, K σ' ⟨hok2, hc2⟩ (kp4.of ch (fun q i g => by omega))⟩
theorem q_136 (h : StC σ B M ds an tx D3 o3 R3 hd en bf ws rs rd PA PB hh ww) (hl12 : a < 12) (hy : y = 0 ∨ y = 1) (K : ∀ σ', StC σ' B M ds an tx D3 o3 R3 (hdU hd a y) en bf ws rs rd PA PB hh ww → kp4 σ σ' → post (.inl (some (mI (hdC (hdU hd a y) 12 0)))) σ') : Tr Ls N 136 0 [some (mP (some 2)), some (mI (a : Int)), some (mI y), none, none] [] σ post := by
  obtain ⟨hok, hc⟩ := h
  obtain ⟨hl, he⟩ := hok.lens
  obtain ⟨c1, c2, cT, c4, cH, cE, cC, c8, c9⟩ := id hc
  refine tr_nox (M := 1) (by decide) (s_136 (N := 0) cH (by omega) hy ?_ ?_)
  · intro g
    exfalso
    omega
  · intro l e1 h1 k1
    obtain rfl : l = a := by omega
    have hch : chg noR (fun q _ => q = 34) σ (setF σ 34 l y) := chg.setF chg.rf rfl
    have hc2 : cAll (setF σ 34 l y) B M ds an tx D3 o3 R3 (hdU hd l y) en bf ws rs rd PA PB hh ww := hc.mix hl he hch (fun a g => g.elim) (fun q j g => by omega) (c1.of hch (fun q j g => by omega)) k1 (cC.of hch (fun a g => g.elim)) c8 ⟨(hch.2 _ _ (by omega)).trans c9.1, (hch.2 _ _ (by omega)).trans c9.2⟩
    exact ⟨⟨_, rfl⟩, K _ ⟨hok, hc2⟩ (kp4.of hch (fun q i g => by omega))⟩
theorem q_137 (h : StC σ B M ds an tx D3 o3 R3 hd en bf ws rs rd PA PB hh ww) (hi : i = -1 ∨ (0 ≤ i ∧ i < (en.length : Int))) (hx : a < tx.length) (hy : 1 ≤ y ∧ y ≤ 7) (he24 : en.length < 24) (K1 : i ≠ -1 → enP (en.getD i.toNat enD) ≠ -1 → post (.inr 2) σ)
    (K2 : ∀ σ', (i = -1 ∨ enP (en.getD i.toNat enD) = -1) → StC σ' B M ds an tx D3 o3 R3 hd (en ++ [enNew a i (enSet en i y)]) bf ws rs rd PA PB hh ww → kp4 σ σ' → post (.inl (some (mI (en.length : Int)))) σ') : Tr Ls (N + 1) 137 0 [some (mP (some 2)), some (mI i), some (mI (a : Int)), some (mI y), none] [] σ post := by
  obtain ⟨hok, hc⟩ := h
  obtain ⟨hl, he⟩ := hok.lens
  have hE := hok.ens
  have hT : okTx tx := hok.2.2.2.1
  obtain ⟨c1, c2, cT, c4, cH, cE, cC, c8, c9⟩ := id hc
  refine s_137 hE hT cT cE (by omega) (by omega) (by omega) ?_ ?_ ?_ ?_
  · intro g
    exact absurd ⟨hi, by omega, by omega⟩ g
  · intro g1 g2
    exact absurd hy g2
  · intro g1 g2 g3
    rcases g3 with g3 | g3
    · exact K1 g3.1 g3.2
    · exfalso
      omega
  · intro σ' g1 g3 g5 g7 k1 k2 ch
    have e9 : (a : Int).toNat = a := by omega
    rw [e9] at k1
    have hEs := okEn_snoc hE hT g7 g1 g3 g5
    rw [e9] at hEs
    have hok2 : okSt B M ds an tx D3 o3 R3 hd (en ++ [enNew a i (enSet en i y)]) bf ws rs rd PA PB hh ww := ⟨hok.1, hok.2.1, hok.2.2.1, hT, hok.rus, hEs, okLoc_snoc hok.lcs, okRf_snoc hok.rfs, bf_ge hok hEs (fun Y e => inE_snoc), hok.cos, hok.pns, hok.hws⟩
    have hc2 : cAll σ' B M ds an tx D3 o3 R3 hd (en ++ [enNew a i (enSet en i y)]) bf ws rs rd PA PB hh ww := hc.ens hl ch (fun a g => g.elim) (fun q j g => teC_2 g) k1 (c4.zero ch (fun a g => g.elim) (fun q j g => teC_1 g) k2) ((ch.1 104 (fun g => g.elim)).trans c8.1) ((ch.1 106 (fun g => g.elim)).trans c8.2)
    exact K2 σ' g5 ⟨hok2, hc2⟩ (kp4.of ch (fun q i g => by omega))
theorem q_138 (h : StC σ B M ds an tx D3 o3 R3 hd en bf ws rs rd PA PB hh ww) (ha : a < en.length) (hx : in32 x) (hy : in32 y) (K1 : post (.inr 1) σ)
    (K2 : ∀ σ', StC σ' B M ds an tx D3 o3 R3 hd (en.set a (enFm (en.getD a enD) x y)) bf ws rs rd PA PB hh ww → kp4 σ σ' → post (.inl (some (mI (enK (en.getD a enD))))) σ') : Tr Ls (N + 1) 138 0 [some (mP (some 2)), some (mI (a : Int)), some (mI x), some (mI y), none, none, none] [] σ post := by
  obtain ⟨hok, hc⟩ := h
  obtain ⟨hl, he⟩ := hok.lens
  have hE := hok.ens
  have hT : okTx tx := hok.2.2.2.1
  obtain ⟨c1, c2, cT, c4, cH, cE, cC, c8, c9⟩ := id hc
  refine s_138 hE hT cT cE (by omega) hx hy ?_ (fun _ _ _ _ => K1) ?_
  · intro g
    exfalso
    omega
  · intro a1 σ' e1 h1 g1 k1 k2 ch
    obtain rfl : a1 = a := by omega
    have hok2 : okSt B M ds an tx D3 o3 R3 hd (en.set a1 (enFm (en.getD a1 enD) x y)) bf ws rs rd PA PB hh ww := ⟨hok.1, hok.2.1, hok.2.2.1, hT, hok.rus, okEn_fm hE h1 g1, okLoc_set hok.lcs (hok.lcs (en.getD a1 enD) (enD_mem h1)), okRf_set hok.rfs (hok.rfs (en.getD a1 enD) (enD_mem h1)), bf_ge hok (okEn_fm hE h1 g1) (fun Y e => inE_set h1 rfl), hok.cos, hok.pns, hok.hws⟩
    have hc2 : cAll σ' B M ds an tx D3 o3 R3 hd (en.set a1 (enFm (en.getD a1 enD) x y)) bf ws rs rd PA PB hh ww := hc.ens hl ch (fun a g => g.elim) (fun q j g => teC_2 g) k1 (c4.zero ch (fun a g => g.elim) (fun q j g => teC_1 g) k2) ((ch.1 104 (fun g => g.elim)).trans c8.1) ((ch.1 106 (fun g => g.elim)).trans c8.2)
    exact K2 σ' ⟨hok2, hc2⟩ (kp4.of ch (fun q i g => by omega))
theorem q_139 (h : StC σ B M ds an tx D3 o3 R3 hd en bf ws rs rd PA PB hh ww) (ha : a < en.length) (hx : 1 ≤ x ∧ x ≤ 999) (hy : 0 ≤ y ∧ y ≤ 2) (K1 : (enL (en.getD a enD)).length = 10 → post (.inr 2) σ) (K2 : post (.inl (some (mI 0))) σ)
    (K3 : ∀ σ' (w : EnT), (enL (en.getD a enD)).length < 10 → (enT w = enT (en.getD a enD) ∧ enP w = enP (en.getD a enD) ∧ enS w = enS (en.getD a enD) ∧ enK w = enK (en.getD a enD) ∧ enA w = enA (en.getD a enD)) → enX w = enX (en.getD a enD) → (enL w).length = (enL (en.getD a enD)).length + 1 → StC σ' B M ds an tx D3 o3 R3 hd (en.set a w) bf ws rs rd PA PB hh ww → kp4 σ σ' → post (.inl (some (mI 1))) σ') : Tr Ls (N + 1) 139 0 [some (mP (some 2)), some (mI (a : Int)), some (mI x), some (mI y), none] [] σ post := by
  obtain ⟨hok, hc⟩ := h
  obtain ⟨hl, he⟩ := hok.lens
  obtain ⟨c1, c2, cT, c4, cH, cE, cC, c8, c9⟩ := id hc
  have hiff : ∀ b : Nat, b < en.length → ((1 ≤ x ∧ x ≤ 999) ∧ 0 ≤ y ∧ y ≤ 2) → (1000 * rk y + x ∈ enL (en.getD b enD) ↔ 1000 * y + x ∈ enM (en.getD b enD)) := fun b hb hxy => okLoc_iff (hok.lcs _ (enD_mem hb)) hxy.1 hxy.2
  refine s_139 he cE hok.lcs (by omega) (by omega) (by omega) ?_ ?_ ?_ (fun _ _ _ _ _ => K2) ?_
  · intro g
    exfalso
    omega
  · intro g1 g2
    exact absurd ⟨hx, hy⟩ g2
  · intro a1 e1 h1 g1 g3 g5
    obtain rfl : a1 = a := by omega
    exact K1 g5
  · intro b L' e1 hb g1 g3 g5 w1 w2 w3
    obtain rfl : b = a := by omega
    have hnm : 1000 * y + x ∉ enM (en.getD b enD) := fun c => g3 ((hiff b hb g1).mpr c)
    have hloc : okLoc L' (enM (en.getD b enD) ++ [1000 * y + x]) := okLoc_add (hok.lcs _ (enD_mem hb)) g1.1 g1.2 hnm w1 w2 (by omega)
    obtain ⟨w, hw⟩ : ∃ w : EnT, w = (enT (en.getD b enD), enP (en.getD b enD), enS (en.getD b enD), enK (en.getD b enD), enA (en.getD b enD), enX (en.getD b enD), enO (en.getD b enD), L', enM (en.getD b enD) ++ [1000 * y + x]) := ⟨_, rfl⟩
    have hok2 : okSt B M ds an tx D3 o3 R3 hd (en.set b w) bf ws rs rd PA PB hh ww := hok.enSet hb (by rw [hw]; exact ⟨rfl, rfl, rfl, rfl, rfl⟩) (by rw [hw]; exact hok.rfs (en.getD b enD) (enD_mem hb)) (by rw [hw]; exact hloc)
    have hs : smE en (en.set b w) := smE_set hb (by rw [hw]; exact ⟨rfl, rfl, rfl, rfl, rfl⟩)
    have hch : chg (fun r => r = (360 + 5 * b) + 1) noC σ (setR σ ((360 + 5 * b) + 1) L') := chg.setR chg.rf rfl
    obtain ⟨q1, q2, q3⟩ := cE.2.1 b hb
    obtain ⟨q4, q5, q6, q7, q8⟩ := cE.2.2 b (by omega)
    have k1 : cEn (setR σ ((360 + 5 * b) + 1) L') (en.set b w) := cE.set hb he rfl (fun j hj e => ⟨fun _ => rfl, setR_ne _ _ (by omega)⟩) (by rw [hw]; exact q1) (by rw [hw]; exact q2) (by rw [hw]; exact q3) (by rw [hw]; exact q4) (by rw [hw]; exact q5) (by rw [hw]; exact q6) (by rw [hw]; exact q7) (by rw [hw]; exact setR_same ..)
    have hc2 : cAll (setR σ ((360 + 5 * b) + 1) L') B M ds an tx D3 o3 R3 hd (en.set b w) bf ws rs rd PA PB hh ww := hc.ens hl hch (fun r g => by omega) (fun q j g => g.elim) k1 ((c4.of hch (fun r g => by omega) (fun q j g => g.elim)).same hs) ((hch.1 104 (by omega)).trans c8.1) ((hch.1 106 (by omega)).trans c8.2)
    exact K3 _ w g5 (by rw [hw]; exact ⟨rfl, rfl, rfl, rfl, rfl⟩) (by rw [hw]) (by rw [hw]; exact w3) ⟨hok2, hc2⟩ (fun _ _ _ => rfl)
theorem set_id {l : List EnT} {w : EnT} (h : w = l.getD a enD) (ha : a < l.length) : l.set a w = l := by
  refine List.ext_getElem? fun t => ?_
  by_cases e : t = a
  · subst e
    rw [List.getElem?_set_self ha, h, List.getD_eq_getElem?_getD, List.getElem?_eq_getElem ha]
    rfl
  · rw [List.getElem?_set_ne (Ne.symm e)]
theorem or_bit {m p : Nat} (h : m / 2 ^ p % 2 = 1) : m ||| 2 ^ p = m := by
  refine Nat.eq_of_testBit_eq fun t => ?_
  rw [Nat.testBit_or, Nat.testBit_two_pow]
  by_cases e : p = t
  · subst e
    have h2 : m.testBit p = true := by
      rw [Nat.testBit_eq_decide_div_mod_eq]
      simpa using h
    simp [h2]
  · simp [e]
theorem q_140 (h : StC σ B M ds an tx D3 o3 R3 hd en bf ws rs rd PA PB hh ww) (ha : a < en.length) (hb : b < en.length) (hy : y = 0 ∨ y = 1) (K1 : a = b → post (.inr 1) σ) (K2 : y = 0 → post (.inr 2) σ) (K3 : ∀ σ', StC σ' B M ds an tx D3 o3 R3 hd en bf ws rs rd PA PB hh ww → kp4 σ σ' → post (.inl (some (mI 0))) σ')
    (K4 : ∀ σ' (w : EnT), a ≠ b → (enT w = enT (en.getD a enD) ∧ enP w = enP (en.getD a enD) ∧ enS w = enS (en.getD a enD) ∧ enK w = enK (en.getD a enD) ∧ enA w = enA (en.getD a enD)) → enL w = enL (en.getD a enD) → StC σ' B M ds an tx D3 o3 R3 hd (en.set a w) bf ws rs rd PA PB hh ww → kp4 σ σ' → post (.inl (some (mI 1))) σ') : Tr Ls (N + 1) 140 0 [some (mP (some 2)), some (mI (a : Int)), some (mI (b : Int)), some (mI y), none, none] [] σ post := by
  obtain ⟨hok, hc⟩ := h
  obtain ⟨hl, he⟩ := hok.lens
  obtain ⟨c1, c2, cT, c4, cH, cE, cC, c8, c9⟩ := id hc
  refine s_140 he cE hok.rfs (by omega) (by omega) hy ?_ ?_ ?_ ?_ ?_
  · intro g
    exact absurd ⟨by omega, by omega⟩ g
  · intro g1 g3
    exact K1 (by omega)
  · intro a1 p e1 e2 h1 h2 hn hy0 g1 g3
    exact K2 hy0
  · intro a1 p e1 e2 h1 h2 hn hy1
    obtain rfl : a1 = a := by omega
    obtain rfl : p = b := by omega
    obtain ⟨q4, q5, q6, q7, q8⟩ := cE.2.2 a1 (by omega)
    obtain ⟨r1, r2⟩ := hok.rfs (en.getD a1 enD) (enD_mem h1)
    obtain ⟨w, hw⟩ : ∃ w : EnT, w = (enT (en.getD a1 enD), enP (en.getD a1 enD), enS (en.getD a1 enD), enK (en.getD a1 enD), enA (en.getD a1 enD), enX (en.getD a1 enD), enO (en.getD a1 enD) ||| 2 ^ p, enL (en.getD a1 enD), enM (en.getD a1 enD)) := ⟨_, rfl⟩
    have wX : enX w = enX (en.getD a1 enD) := by rw [hw]
    have wO : enO w = enO (en.getD a1 enD) ||| 2 ^ p := by rw [hw]
    have hw2 : w = (enT (en.getD a1 enD), enP (en.getD a1 enD), enS (en.getD a1 enD), enK (en.getD a1 enD), enA (en.getD a1 enD), enX w, enO w, enL (en.getD a1 enD), enM (en.getD a1 enD)) := by rw [wX, wO]; exact hw
    have hok2 := hok.enSet (w := w) h1 (by rw [hw]; exact ⟨rfl, rfl, rfl, rfl, rfl⟩) (by rw [wX, wO]; exact ⟨r1, Nat.or_lt_two_pow r2 (Nat.pow_lt_pow_right (by omega) h2)⟩) (by rw [hw]; exact hok.lcs (en.getD a1 enD) (enD_mem h1))
    have hc2 := seeC (v := ((enO (en.getD a1 enD) ||| 2 ^ p : Nat) : Int)) hok hc h1 (q9 := 8) (Or.inr rfl) hw2 (by rw [wX]; exact (setF_ne _ _ (by omega)).trans q6) (by rw [wO]; exact setF_same ..)
    have hkp : kp4 σ (setF σ (360 + 5 * a1) 8 ((enO (en.getD a1 enD) ||| 2 ^ p : Nat) : Int)) := fun q i g => setF_ne _ _ (by omega)
    by_cases c : enO (en.getD a1 enD) / 2 ^ p % 2 = 1
    · rw [b2_neg (fun c2 => c2 c)]
      have hs := set_id (w := w) (by rw [hw, or_bit c]) h1
      rw [hs] at hok2 hc2
      exact K3 _ ⟨hok2, hc2⟩ hkp
    · rw [b2_pos c]
      exact K4 _ w hn (by rw [hw]; exact ⟨rfl, rfl, rfl, rfl, rfl⟩) (by rw [hw]) ⟨hok2, hc2⟩ hkp
  · intro a1 p e1 e2 h1 h2 hn hy0 g1
    obtain rfl : a1 = a := by omega
    obtain rfl : p = b := by omega
    obtain ⟨q4, q5, q6, q7, q8⟩ := cE.2.2 a1 (by omega)
    obtain ⟨r1, r2⟩ := hok.rfs (en.getD a1 enD) (enD_mem h1)
    obtain ⟨w, hw⟩ : ∃ w : EnT, w = (enT (en.getD a1 enD), enP (en.getD a1 enD), enS (en.getD a1 enD), enK (en.getD a1 enD), enA (en.getD a1 enD), (p : Int), enO (en.getD a1 enD), enL (en.getD a1 enD), enM (en.getD a1 enD)) := ⟨_, rfl⟩
    have wX : enX w = (p : Int) := by rw [hw]
    have wO : enO w = enO (en.getD a1 enD) := by rw [hw]
    have hw2 : w = (enT (en.getD a1 enD), enP (en.getD a1 enD), enS (en.getD a1 enD), enK (en.getD a1 enD), enA (en.getD a1 enD), enX w, enO w, enL (en.getD a1 enD), enM (en.getD a1 enD)) := by rw [wX, wO]; exact hw
    have hok2 := hok.enSet (w := w) h1 (by rw [hw]; exact ⟨rfl, rfl, rfl, rfl, rfl⟩) (by rw [wX, wO]; exact ⟨Or.inr (by omega), r2⟩) (by rw [hw]; exact hok.lcs (en.getD a1 enD) (enD_mem h1))
    have hc2 := seeC (v := (p : Int)) hok hc h1 (q9 := 7) (Or.inl rfl) hw2 (by rw [wX]; exact setF_same ..) (by rw [wO]; exact (setF_ne _ _ (by omega)).trans q7)
    have hkp : kp4 σ (setF σ (360 + 5 * a1) 7 (p : Int)) := fun q i g => setF_ne _ _ (by omega)
    by_cases c : enX (en.getD a1 enD) = -1
    · rw [b2_pos c]
      exact K4 _ w hn (by rw [hw]; exact ⟨rfl, rfl, rfl, rfl, rfl⟩) (by rw [hw]) ⟨hok2, hc2⟩ hkp
    · rw [b2_neg c]
      have hs := set_id (w := w) (by rw [hw, ← g1.resolve_left c]) h1
      rw [hs] at hok2 hc2
      exact K3 _ ⟨hok2, hc2⟩ hkp
theorem q_141 (h : StC σ B M ds an tx D3 o3 R3 hd en bf ws rs rd PA PB hh ww) (ha : a < tx.length) (hw : ws.length < 30) (K : ∀ σ', StC σ' B M ds an tx D3 o3 R3 hd en bf (ws ++ [(a : Int)]) (rs ++ [-1]) rd PA PB hh ww → kp4 σ σ' → post (.inl (some (mI (ws.length : Int)))) σ') : Tr Ls N 141 0 [some (mP (some 2)), some (mI (a : Int))] [] σ post := by
  obtain ⟨hok, hc⟩ := h
  obtain ⟨hl, he⟩ := hok.lens
  have hE := hok.ens
  have hT : okTx tx := hok.2.2.2.1
  obtain ⟨c1, c2, cT, c4, cH, cE, cC, c8, c9⟩ := id hc
  refine tr_nox (M := 1) (by decide) (s_141 (N := 0) hT cT hok.cos cC (by omega) ?_ ?_ ?_)
  · intro g
    exfalso
    omega
  · intro g1 g2
    exfalso
    omega
  · intro g1 g3
    have hok2 : okSt B M ds an tx D3 o3 R3 hd en bf (ws ++ [(a : Int)]) (rs ++ [-1]) rd PA PB hh ww := ⟨hok.1, hok.2.1, hok.2.2.1, hT, hok.rus, hE, hok.lcs, hok.rfs, hok.bfs, okCo_word hok.cos g3 g1, hok.pns, hok.hws⟩
    have hch : chg (fun r => r = 38 ∨ r = 40) noC σ (setR (setR σ 38 (ws ++ [(a : Int)])) 40 (rs ++ [-1])) := (chg.setR (chg.setR (R := fun r => r = 38 ∨ r = 40) (C := noC) chg.rf (Or.inl rfl)) (Or.inr rfl))
    have hc2 : cAll (setR (setR σ 38 (ws ++ [(a : Int)])) 40 (rs ++ [-1])) B M ds an tx D3 o3 R3 hd en bf (ws ++ [(a : Int)]) (rs ++ [-1]) rd PA PB hh ww := hc.mix hl he hch (fun a g => by omega) (fun q j g => g.elim) (c1.of hch (fun q j g => g.elim)) (cH.of hch (fun j g => g.elim)) ⟨(setR_ne _ _ (by decide)).trans (setR_same ..), setR_same .., fun i hi => (hch.1 _ (by omega)).trans (cC.2.2 i hi)⟩ ⟨(hch.1 _ (by omega)).trans c8.1, (hch.1 _ (by omega)).trans c8.2⟩ c9
    exact ⟨⟨_, rfl⟩, K _ ⟨hok2, hc2⟩ (fun _ _ _ => rfl)⟩
theorem q_146 (h : StC σ B M ds an tx D3 o3 R3 hd en bf ws rs rd PA PB hh ww) (hx : 4 ≤ x ∧ x ≤ 40) (hy : 4 ≤ y ∧ y ≤ 40) (K : ∀ σ', StC σ' B M ds an tx D3 o3 R3 hd en bf ws rs rd PA PB y x → kp4 σ σ' → post (.inl (some (mI ww))) σ') : Tr Ls N 146 0 [some (mP (some 2)), some (mI x), some (mI y), none] [] σ post := by
  obtain ⟨hok, hc⟩ := h
  obtain ⟨hl, he⟩ := hok.lens
  have hE := hok.ens
  have hT : okTx tx := hok.2.2.2.1
  obtain ⟨c1, c2, cT, c4, cH, cE, cC, c8, c9⟩ := id hc
  refine tr_nox (M := 1) (by decide) (s_146 (N := 0) (by omega) (by omega) (fun g => absurd ⟨hx, hy⟩ g) ?_)
  intro g1
  have hok2 : okSt B M ds an tx D3 o3 R3 hd en bf ws rs rd PA PB y x := ⟨hok.1, hok.2.1, hok.2.2.1, hT, hok.rus, hE, hok.lcs, hok.rfs, hok.bfs, hok.cos, hok.pns, ⟨g1.2, g1.1⟩⟩
  have hch : chg noR (fun q j => q = 2 ∧ (j = 13 ∨ j = 14)) σ (setF (setF σ 2 13 x) 2 14 y) := (chg.setF (chg.setF (R := noR) (C := fun q j => q = 2 ∧ (j = 13 ∨ j = 14)) chg.rf ⟨rfl, Or.inl rfl⟩) ⟨rfl, Or.inr rfl⟩)
  have hc2 : cAll (setF (setF σ 2 13 x) 2 14 y) B M ds an tx D3 o3 R3 hd en bf ws rs rd PA PB y x := hc.mix hl he hch (fun a g => g.elim) (fun q j g => by omega) (c1.of hch (fun q j g => by omega)) (cH.of hch (fun j g => by omega)) (cC.of hch (fun a g => g.elim)) c8 ⟨(setF_ne _ _ (by omega)).trans (setF_same ..), setF_same ..⟩
  rw [c9.1]
  exact ⟨⟨_, rfl⟩, K _ ⟨hok2, hc2⟩ (kp4.of hch (fun q i g => by omega))⟩
end OPS
