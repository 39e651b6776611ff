/-! Words: the model's. -/
def mCo (σ : Sg) (ws rs : List Int) (rd : Nat → List Int) : Prop := σ.2 480 60 = (ws.length : Int) ∧ mseg σ 526 0 ws ∧ mseg σ 527 0 rs ∧ ∀ i, i < 30 → σ.2 529 i = ((rd i).length : Int) ∧ mseg σ 528 (3 * i) (rd i)
theorem mseg.get0 {σ : Sg} {q p : Nat} {xs : List Int} (h : mseg σ q 0 xs) (hp : p < xs.length) : σ.2 q p = xs.getD p 0 := by
  have := h p hp
  rwa [Nat.zero_add] at this
theorem cwW_swap (kt : Int → List Int) (ws : List Int) (a b : Int) : cwW kt ws b a = - cwW kt ws a b := by
  unfold cwW
  by_cases h : inW ws a ∧ inW ws b
  · rw [if_pos h, if_pos ⟨h.2, h.1⟩, cmpL_swap]
  · rw [if_neg h, if_neg (fun g => h ⟨g.2, g.1⟩)]
    omega
theorem gnW_iff {kt : Int → List Int} {ws : List Int} {s : Int} {a b : Nat} : gnW kt ws s a b = true ↔ (if cwW kt ws ((a : Int) + s) ((b : Int) + s) ≠ 0 then cwW kt ws ((a : Int) + s) ((b : Int) + s) else cwW kt ws ((a : Int) + 2 * s) ((b : Int) + 2 * s)) < 0 := by
  unfold gnW
  rw [decide_eq_true_iff]
  unfold cnW
  rw [cwW_swap kt ws ((a : Int) + s) ((b : Int) + s), cwW_swap kt ws ((a : Int) + 2 * s) ((b : Int) + 2 * s)]
  by_cases h : cwW kt ws ((a : Int) + s) ((b : Int) + s) = 0
  · rw [h]
    simp only [Int.neg_zero, ne_eq, not_true_eq_false, if_false]
    omega
  · rw [if_pos h, if_pos (by omega)]
    omega
section MWORDS
variable {Ls N k pc n n' nn b c t a q kd w d p X T : Nat} {L0 : mLs} {st r as : List mV} {h h' : mH} {σ σ' σ'' : Sg} {post : tP} {x y z x' y' i i' s v m u lv : Int} {xs ys ss L M A B ws rs : List Int} {e : mE} {C : Nat → Nat → Prop} {R : Nat → Prop} {tx : List (List Int)} {en : List EnT} {D : TD} {o : Nat → Int} {rd : Nat → List Int} {kt : Int → List Int}
theorem mCo.of (h : mCo σ ws rs rd) (ho : only C σ σ') (hC : ∀ q i, C q i → ¬ ((526 ≤ q ∧ q ≤ 529) ∨ (q = 480 ∧ i = 60))) : mCo σ' ws rs rd :=
  ⟨(ho.2 _ _ (fun g => hC _ _ g (by omega))).trans h.1, h.2.1.only ho (fun i _ _ g => hC _ _ g (by omega)), h.2.2.1.only ho (fun i _ _ g => hC _ _ g (by omega)), fun i hi => ⟨(ho.2 _ _ (fun g => hC _ _ g (by omega))).trans (h.2.2.2 i hi).1, (h.2.2.2 i hi).2.only ho (fun j _ _ g => hC _ _ g (by omega))⟩⟩
theorem s_313 (hC : okCo n ws rs rd) (hn : n ≤ 30) (cC : mCo σ ws rs rd) (ha : a < 30) (hy : in32 y) (K : post (.inl (some (mI (b2 (y ∈ rd a))))) σ) : Tr Ls N 313 0 [some (mP (some 480)), some (mI (a : Int)), some (mI y), none, none] [] σ post := by
  obtain ⟨h3, h4⟩ := hC.2.2.2.2 a ha
  obtain ⟨c1, c2⟩ := cC.2.2.2 a ha
  have loop : ∀ (rest done : List Int) (v : Int), rd a = done ++ rest → (v = 0 ∨ v = 1) → (v = 1 ↔ y ∈ done) → Tr Ls N 313 5 [some (mP (some 480)), some (mI (a : Int)), some (mI y), some (mI v), some (mI (done.length : Int))] [] σ post := by
    intro rest
    induction rest with
    | nil =>
      intro done v e hv hw
      rw [List.append_nil] at e
      rw [e] at c1 h3
      repeat (first | refine tr_mgr rfl (by decide) rfl ?_ | refine tr_mgi rfl (by decide) (by decide) rfl ?_ | refine tr_mv rfl (fun _ => rfl) ?_)
      refine tr_man (j := a) rfl (by omega) (by omega) rfl (fun _ => rfl) rfl rfl rfl ?_
      rw [c1]
      refine tr_cmp2 rfl (m32_of (by omega)) (m32_of (by omega)) (fun _ => ?_) (fun c9 => absurd (Int.le_refl _) c9)
      iterate 1 (refine tr_mv rfl (fun _ => rfl) ?_)
      rw [b2_congr (show y ∈ rd a ↔ v = 1 by rw [e]; exact hw.symm)] at K
      rcases hv with rfl | rfl
      · exact tr_rb0 rfl (by decide) K
      · exact tr_rb1 rfl rfl K
    | cons r0 rest ih =>
      intro done v e hv hw
      have hlen : (rd a).length = done.length + 1 + rest.length := by rw [e]; simp; omega
      have hr0 := h4 r0 (by rw [e]; simp)
      have fin : ∀ w : Int, (w = 0 ∨ w = 1) → (w = 1 ↔ y ∈ done ++ [r0]) → Tr Ls N 313 40 [some (mP (some 480)), some (mI (a : Int)), some (mI y), some (mI v), some (mI (done.length : Int))] [mI w] σ post := by
        intro w g1 g2
        iterate 3 (refine tr_mv rfl (fun _ => rfl) ?_)
        show Tr Ls N 313 5 [some (mP (some 480)), some (mI (a : Int)), some (mI y), some (mI w), some (mI ((done.length : Int) + 1))] [] σ post
        rw [show (done.length : Int) + 1 = ((done ++ [r0]).length : Int) by simp]
        exact ih (done ++ [r0]) w (by rw [e]; simp) g1 g2
      repeat (first | refine tr_mgr rfl (by decide) rfl ?_ | refine tr_mgi rfl (by decide) (by decide) rfl ?_ | refine tr_mv rfl (fun _ => rfl) ?_)
      refine tr_man (j := a) rfl (by omega) (by omega) rfl (fun _ => rfl) rfl rfl rfl ?_
      rw [c1]
      refine tr_cmp2 rfl (m32_of (by omega)) (m32_of (by omega)) (fun c9 => absurd (show ((rd a).length : Int) ≤ (done.length : Int) from c9) (by omega)) (fun _ => ?_)
      have hmem : ∀ w, w ∈ done ++ [r0] ↔ w ∈ done ∨ w = r0 := fun w => by rw [List.mem_append, List.mem_singleton]
      rcases hv with rfl | rfl
      · have hnd : y ∉ done := fun g => absurd (hw.mpr g) (by decide)
        have hrg : σ.2 528 (3 * a + done.length) = r0 := by
          rw [c2.get (by omega), e, List.getD_eq_getElem?_getD, List.getElem?_append_right (by omega)]
          simp
        repeat (first | refine tr_mgr rfl (by decide) rfl ?_ | refine tr_mgi rfl (by decide) (by decide) rfl ?_ | refine tr_mv rfl (fun _ => rfl) ?_)
        refine tr_man (j := 3 * a + done.length) rfl (by omega) (by omega) rfl (fun _ => rfl) rfl rfl rfl ?_
        rw [hrg]
        iterate 1 (refine tr_mv rfl (fun _ => rfl) ?_)
        refine tr_cmp2 rfl (m32_of (by omega)) (m32_of (by omega)) (fun g1 => ?_) (fun g1 => ?_)
        · have g2 : ¬ r0 = y := g1
          iterate 1 (refine tr_mv rfl (fun _ => rfl) ?_)
          exact fin 0 (Or.inl rfl) ⟨fun g => absurd g (by decide), fun g => by rcases (hmem y).mp g with h | h; exact absurd h hnd; exact absurd h.symm g2⟩
        · have g2 : r0 = y := Decidable.of_not_not g1
          iterate 2 (refine tr_mv rfl (fun _ => rfl) ?_)
          exact fin 1 (Or.inr rfl) ⟨fun _ => (hmem y).mpr (Or.inr g2.symm), fun _ => rfl⟩
      · iterate 4 (refine tr_mv rfl (fun _ => rfl) ?_)
        exact fin 1 (Or.inr rfl) ⟨fun _ => (hmem y).mpr (Or.inl (hw.mp rfl)), fun _ => rfl⟩
  iterate 4 (refine tr_mv rfl (fun _ => rfl) ?_)
  exact loop (rd a) [] 0 rfl (Or.inl rfl) ⟨fun g => absurd g (by decide), fun g => absurd g List.not_mem_nil⟩
theorem s_316 (hC : okCo n ws rs rd) (hn : n ≤ 30) (cC : mCo σ ws rs rd) (hp : p < ws.length) (hx : in32 x) (K : post (.inl (some (mI (b2 (own ws rs rd x p))))) σ) : Tr Ls N 316 0 [some (mP (some 480)), some (mI (p : Int)), some (mI x), none] [] σ post := by
  have hw30 := hC.1
  have hrl := hC.2.1
  have hw := hC.2.2.1 _ (getD_mem hp)
  have hr := hC.2.2.2.1 _ (getD_mem (show p < rs.length by omega))
  have e28 := cC.2.1.get0 hp
  have e29 := cC.2.2.1.get0 (show p < rs.length by omega)
  unfold own ownB at K
  generalize ws.getD p 0 = w at *
  generalize rs.getD p 0 = rr at *
  obtain ⟨tt, rfl⟩ : ∃ tt : Nat, w = (tt : Int) := ⟨w.toNat, by omega⟩
  rw [Int.toNat_natCast] at K
  have h6 := hC.2.2.2.2 tt (by omega)
  have c6 := cC.2.2.2 tt (by omega)
  repeat (first | refine tr_mgr rfl (by decide) rfl ?_ | refine tr_mgi rfl (by decide) (by decide) rfl ?_ | refine tr_mv rfl (fun _ => rfl) ?_)
  refine tr_man (j := p) rfl (by omega) (by omega) rfl (fun _ => rfl) rfl rfl rfl ?_
  rw [e28]
  repeat (first | refine tr_mgr rfl (by decide) rfl ?_ | refine tr_mgi rfl (by decide) (by decide) rfl ?_ | refine tr_mv rfl (fun _ => rfl) ?_)
  refine tr_man (j := p) rfl (by omega) (by omega) rfl (fun _ => rfl) rfl rfl rfl ?_
  rw [e29]
  iterate 1 (refine tr_mv rfl (fun _ => rfl) ?_)
  refine tr_cmp2 rfl (m32_of (by omega)) (m32_of (by omega)) (fun g1 => ?_) (fun g1 => ?_)
  · have g2 : rr = -1 := g1
    rw [if_neg (fun g => g g2)] at K
    repeat (first | refine tr_mgr rfl (by decide) rfl ?_ | refine tr_mgi rfl (by decide) (by decide) rfl ?_ | refine tr_mv rfl (fun _ => rfl) ?_)
    refine tr_man (j := tt) rfl (by omega) (by omega) rfl (fun _ => rfl) rfl rfl rfl ?_
    rw [c6.1]
    refine tr_if2 rfl (m32_of (by omega)) (fun g3 => ?_) (fun g3 => ?_)
    · have g4 : ((rd tt).length : Int) ≤ 0 := g3
      have g5 : rd tt = [] := List.length_eq_zero_iff.mp (by omega)
      rw [if_pos g5] at K
      iterate 2 (refine tr_mv rfl (fun _ => rfl) ?_)
      refine tr_cmp2 rfl (m32_of (by omega)) (m32_of (by omega)) (fun g6 => ?_) (fun g6 => ?_)
      · have g7 : ¬ (tt : Int) = x := g6
        iterate 1 (refine tr_mv rfl (fun _ => rfl) ?_)
        exact tr_rb0 rfl (fun g => g7 (of_decide_eq_true g)) K
      · have g7 : (tt : Int) = x := Decidable.of_not_not g6
        iterate 2 (refine tr_mv rfl (fun _ => rfl) ?_)
        exact tr_rb1 rfl (decide_eq_true g7) K
    · have g4 : ¬ ((rd tt).length : Int) ≤ 0 := g3
      have g5 : ¬ rd tt = [] := fun g => g4 (by rw [g]; decide)
      rw [if_neg g5] at K
      iterate 3 (refine tr_mv rfl (fun _ => rfl) ?_)
      refine tr_vc (q := 480) rfl isO_480 rfl rfl rfl (s_313 hC hn cC (a := tt) (by omega) hx ?_)
      iterate 1 (refine tr_mv rfl (fun _ => rfl) ?_)
      rw [b2_congr (show decide (x ∈ rd tt) = true ↔ x ∈ rd tt from decide_eq_true_iff)] at K
      exact tr_rb rfl K
  · have g2 : ¬ rr = -1 := g1
    rw [if_pos g2] at K
    repeat (first | refine tr_mgr rfl (by decide) rfl ?_ | refine tr_mgi rfl (by decide) (by decide) rfl ?_ | refine tr_mv rfl (fun _ => rfl) ?_)
    refine tr_man (j := p) rfl (by omega) (by omega) rfl (fun _ => rfl) rfl rfl rfl ?_
    rw [e29]
    iterate 1 (refine tr_mv rfl (fun _ => rfl) ?_)
    refine tr_cmp2 rfl (m32_of (by omega)) (m32_of (by omega)) (fun g4 => ?_) (fun g4 => ?_)
    · have g5 : ¬ rr = x := g4
      iterate 2 (refine tr_mv rfl (fun _ => rfl) ?_)
      exact tr_rb0 rfl (fun g => g5 (of_decide_eq_true g)) K
    · have g5 : rr = x := Decidable.of_not_not g4
      iterate 2 (refine tr_mv rfl (fun _ => rfl) ?_)
      exact tr_rb1 rfl (decide_eq_true g5) K
/-- one step aside on both -/
theorem t_317 {kk : Int} {v5 v6 v7 : Option mV} (hM : tlM 0 σ D) (hD : okTD D) (hO : opM 0 σ o) (hT : okTx tx) (cT : mTx σ tx) (hC : okCo tx.length ws rs rd) (cC : mCo σ ws rs rd) (ha : a < ws.length) (hb : b < ws.length) (hs : s = -1 ∨ s = 1) (hk : kk = 1 ∨ kk = 2)
    (K : ∀ σ' v5 v6, only cQ σ σ' → Tr Ls N 317 93 [some (mP (some 480)), some (mI (a : Int)), some (mI (b : Int)), some (mI s), some (mI kk), some (mI v5), some (mI v6), v7] [mI (cwW (kt3 tx D o) ws ((a : Int) + kk * s) ((b : Int) + kk * s))] σ' post) :
    Tr Ls N 317 9 [some (mP (some 480)), some (mI (a : Int)), some (mI (b : Int)), some (mI s), some (mI kk), v5, v6, v7] [] σ post := by
  have hw30 := hC.1
  have hT30 := hT.1
  have hab : in32 ((a : Int) + kk * s) ∧ in32 ((b : Int) + kk * s) := by
    rcases hs with rfl | rfl <;> rcases hk with rfl | rfl <;> omega
  obtain ⟨A0, hA0⟩ : ∃ A0, A0 = (a : Int) + kk * s := ⟨_, rfl⟩
  obtain ⟨B0, hB0⟩ : ∃ B0, B0 = (b : Int) + kk * s := ⟨_, rfl⟩
  rw [← hA0, ← hB0] at K hab
  iterate 6 (refine tr_mv rfl (fun _ => rfl) ?_)
  refine tr_vc (q := 480) rfl isO_480 rfl rfl rfl (s_311 (by rw [← hA0]; exact hab.1) cC.1 (by omega) ?_)
  rw [← hA0]
  iterate 7 (refine tr_mv rfl (fun _ => rfl) ?_)
  refine tr_vc (q := 480) rfl isO_480 rfl rfl rfl (s_311 (by rw [← hB0]; exact hab.2) cC.1 (by omega) ?_)
  rw [← hB0]
  iterate 2 (refine tr_mv rfl (fun _ => rfl) ?_)
  unfold cwW at K
  by_cases g1 : 0 ≤ A0 ∧ A0 < (ws.length : Int)
  · by_cases g2 : 0 ≤ B0 ∧ B0 < (ws.length : Int)
    · rw [if_pos ⟨g1, g2⟩] at K
      rw [b2_pos g1, b2_pos g2]
      have e1 := cC.2.1.get0 (p := A0.toNat) (by omega)
      have e2 := cC.2.1.get0 (p := B0.toNat) (by omega)
      have h1 := hC.2.2.1 _ (getD_mem (p := A0.toNat) (by omega))
      have h2 := hC.2.2.1 _ (getD_mem (p := B0.toNat) (by omega))
      generalize ws.getD A0.toNat 0 = w1 at *
      generalize ws.getD B0.toNat 0 = w2 at *
      obtain ⟨t1, rfl⟩ : ∃ t1 : Nat, w1 = (t1 : Int) := ⟨w1.toNat, by omega⟩
      obtain ⟨t2, rfl⟩ : ∃ t2 : Nat, w2 = (t2 : Int) := ⟨w2.toNat, by omega⟩
      repeat (first | refine tr_mgr rfl (by decide) rfl ?_ | refine tr_mgi rfl (by decide) (by decide) rfl ?_ | refine tr_mv rfl (fun _ => rfl) ?_)
      rw [← hA0]
      refine tr_man (j := A0.toNat) rfl (by omega) (by omega) rfl (fun _ => rfl) rfl rfl rfl ?_
      rw [e1]
      repeat (first | refine tr_mgr rfl (by decide) rfl ?_ | refine tr_mgi rfl (by decide) (by decide) rfl ?_ | refine tr_mv rfl (fun _ => rfl) ?_)
      rw [← hB0]
      refine tr_man (j := B0.toNat) rfl (by omega) (by omega) rfl (fun _ => rfl) rfl rfl rfl ?_
      rw [e2]
      have q1 := okTx_get hT (i := t1) (by omega)
      have q2 := okTx_get hT (i := t2) (by omega)
      refine tr_vc (q := 480) rfl isO_480 rfl rfl rfl (s_273 (T := 0) (d := 3) (a := t1) (b := t2) (by decide) hM hD hO (by omega) (cT.2 _ (by omega)) q1.1 q1.2.2 (by omega) (cT.2 _ (by omega)) q2.1 q2.2.2 (by decide) (fun σ2 o2 => ?_))
      iterate 1 (refine tr_mv rfl (fun _ => rfl) ?_)
      exact K σ2 _ _ o2
    · rw [if_neg (fun g => g2 g.2), b2_pos g1, b2_neg g2] at K
      rw [b2_pos g1, b2_neg g2]
      iterate 7 (refine tr_mv rfl (fun _ => rfl) ?_)
      rw [show (1 : Int) - 0 = 1 from rfl] at K
      exact K σ _ _ only.rf
  · rw [if_neg (fun g => g1 g.1), b2_neg g1] at K
    rw [b2_neg g1]
    by_cases g2 : 0 ≤ B0 ∧ B0 < (ws.length : Int)
    · rw [b2_pos g2] at K ⊢
      rw [show (0 : Int) - 1 = -1 from rfl] at K
      iterate 7 (refine tr_mv rfl (fun _ => rfl) ?_)
      exact K σ _ _ only.rf
    · rw [b2_neg g2] at K ⊢
      rw [show (0 : Int) - 0 = 0 from rfl] at K
      iterate 6 (refine tr_mv rfl (fun _ => rfl) ?_)
      exact K σ _ _ only.rf
theorem s_317 (hM : tlM 0 σ D) (hD : okTD D) (hO : opM 0 σ o) (hT : okTx tx) (cT : mTx σ tx) (hC : okCo tx.length ws rs rd) (cC : mCo σ ws rs rd) (ha : a < ws.length) (hb : b < a) (hs : s = -1 ∨ s = 1)
    (K : ∀ σ', only cQ σ σ' → post (.inl (some (mI (b2 (gnW (kt3 tx D o) ws s a b = true))))) σ') :
    Tr Ls N 317 0 [some (mP (some 480)), some (mI (a : Int)), some (mI (b : Int)), some (mI s), none, none, none, none] [] σ post := by
  have hw30 := hC.1
  have K' : ∀ σ', only cQ σ σ' → post (.inl (some (mI (b2 ((if cwW (kt3 tx D o) ws ((a : Int) + s) ((b : Int) + s) ≠ 0 then cwW (kt3 tx D o) ws ((a : Int) + s) ((b : Int) + s) else cwW (kt3 tx D o) ws ((a : Int) + 2 * s) ((b : Int) + 2 * s)) < 0))))) σ' := fun σ' ho => by
    rw [← b2_congr gnW_iff]
    exact K σ' ho
  have i1 := cwW_in (kt3 tx D o) ws ((a : Int) + s) ((b : Int) + s)
  have i2 := cwW_in (kt3 tx D o) ws ((a : Int) + 2 * s) ((b : Int) + 2 * s)
  iterate 5 (refine tr_mv rfl (fun _ => rfl) ?_)
  refine t_317 (kk := 1) hM hD hO hT cT hC cC ha (by omega) hs (Or.inl rfl) (fun σ1 v5 v6 o1 => ?_)
  rw [Int.one_mul]
  iterate 2 (refine tr_mv rfl (fun _ => rfl) ?_)
  have c1Q : ∀ q i, cQ q i → q = 489 ∨ (504 ≤ q ∧ q ≤ 511) ∨ (q = 480 ∧ (i = 13 ∨ i = 32 ∨ i = 34 ∨ i = 36 ∨ i = 38 ∨ i = 40)) := fun q i g => cQ_nin g
  by_cases g1 : cwW (kt3 tx D o) ws ((a : Int) + s) ((b : Int) + s) = 0
  · rw [if_neg (fun g => g g1)] at K'
    rw [g1]
    iterate 6 (refine tr_mv rfl (fun _ => rfl) ?_)
    show Tr Ls N 317 9 [some (mP (some 480)), some (mI (a : Int)), some (mI (b : Int)), some (mI s), some (mI 2), _, _, _] [] σ1 post
    refine t_317 (kk := 2) (hM.cq o1) hD (hO.cq o1) hT (cT.of o1 (fun q i g => by have := c1Q q i g; omega)) hC (cC.of o1 (fun q i g => by have := c1Q q i g; omega)) ha (by omega) hs (Or.inr rfl) (fun σ2 v5 v6 o2 => ?_)
    have k := K' σ2 (o1.tr o2)
    iterate 2 (refine tr_mv rfl (fun _ => rfl) ?_)
    generalize cwW (kt3 tx D o) ws ((a : Int) + 2 * s) ((b : Int) + 2 * s) = cc at *
    refine tr_if2 rfl (m32_of (by omega)) (fun g2 => ?_) (fun g2 => ?_)
    · have g3 : cc = 0 := g2
      iterate 7 (refine tr_mv rfl (fun _ => rfl) ?_)
      refine tr_cmp2 rfl (m32_of (by omega)) (m32_of (by omega)) (fun g4 => ?_) (fun g4 => ?_)
      · iterate 1 (refine tr_mv rfl (fun _ => rfl) ?_)
        exact tr_rb0 rfl (by omega) k
      · exact absurd (show (b : Int) ≤ (a : Int) by omega) g4
    · have g3 : ¬ cc = 0 := g2
      iterate 1 (refine tr_mv rfl (fun _ => rfl) ?_)
      refine tr_if2 rfl (m32_of (by omega)) (fun g4 => ?_) (fun g4 => ?_)
      · have g5 : 0 ≤ cc := g4
        iterate 1 (refine tr_mv rfl (fun _ => rfl) ?_)
        exact tr_rb0 rfl (by omega) k
      · have g5 : ¬ 0 ≤ cc := g4
        iterate 2 (refine tr_mv rfl (fun _ => rfl) ?_)
        exact tr_rb1 rfl (by omega) k
  · rw [if_pos g1] at K'
    have k := K' σ1 o1
    generalize cwW (kt3 tx D o) ws ((a : Int) + s) ((b : Int) + s) = cc at *
    refine tr_if2 rfl (m32_of (by omega)) (fun g2 => ?_) (fun g2 => ?_)
    · exact absurd g2 g1
    · have g3 : ¬ cc = 0 := g2
      iterate 1 (refine tr_mv rfl (fun _ => rfl) ?_)
      refine tr_if2 rfl (m32_of (by omega)) (fun g4 => ?_) (fun g4 => ?_)
      · have g5 : 0 ≤ cc := g4
        iterate 1 (refine tr_mv rfl (fun _ => rfl) ?_)
        exact tr_rb0 rfl (by omega) k
      · have g5 : ¬ 0 ≤ cc := g4
        iterate 2 (refine tr_mv rfl (fun _ => rfl) ?_)
        exact tr_rb1 rfl (by omega) k
end MWORDS
