/-! The model: elements, keys, comparing, finding, asked by number. -/
section MKEYS2
variable {Ls N k pc n n' nn b c t a q d p X T F kd w : Nat} {L L0 : mLs} {st r as : List mV} {h h' : mH} {σ σ' σ'' : Sg} {post : tP} {x y z x' y' i i' s v m u how it hh ww : Int} {xs ys is ans an ds dA ss ss2 : List Int} {e : mE} {C : Nat → Nat → Prop} {D : TD} {R RF : RuT} {Rr : Nat → Prop} {tx : List (List Int)} {en : List EnT} {D3 : Nat → TD} {o : Nat → Int} {o3 : Nat → Nat → Int} {R3 : Nat → RuT} {B M : Int → Int}
theorem s_270 (hT : okTx tx) (cT : mTx σ tx) (hX3 : mX3 σ D3 o3) (hi : in32 i) (hx : in32 x) (hz : in32 z)
    (K1 : ¬ (tlTx tx.length i x ∧ 0 ≤ z) → post (.inl (some (mI 0))) (setF σ 480 0 1))
    (K2 : ∀ (X a : Nat) (σ' : Sg), i = (X : Int) → x = (a : Int) → X < 3 → a < tx.length → 0 ≤ z → σ'.2 480 0 = 0 → only cCz σ σ' → post (.inl (some (mI (elA (D3 X) (o3 X) (tx.getD a []) z)))) σ') :
    Tr Ls N 270 0 [some (mP (some 480)), some (mI i), some (mI x), some (mI z)] [] σ post := by
  have hT30 := hT.1
  have bad : ¬ (tlTx tx.length i x ∧ 0 ≤ z) → Tr Ls N 270 24 [some (mP (some 480)), some (mI i), some (mI x), some (mI z)] [mP (some 480)] σ post := by
    intro g
    iterate 1 (refine tr_mv rfl (fun _ => rfl) ?_)
    refine tr_vc (q := 480) rfl isO_480 rfl rfl rfl (s_210 (by decide) ?_)
    rw [b2, if_neg (by decide)]
    repeat (refine tr_mv rfl (fun _ => rfl) ?_)
    exact tr_ri rfl rfl (K1 g)
  iterate 2 (refine tr_mv rfl (fun _ => rfl) ?_)
  refine tr_stat rfl rfl rfl (s_219 hi ?_)
  first | refine tr_ib rfl (fun g1 => ?_) (fun g1 => ?_) | refine tr_ibn rfl (fun g1 => ?_) (fun g1 => ?_)
  · exact bad (fun g => g1 g.1.1)
  · iterate 2 (refine tr_mv rfl (fun _ => rfl) ?_)
    refine tr_vc (q := 480) rfl isO_480 rfl rfl rfl (s_218 hx cT.1 (by omega) ?_)
    first | refine tr_ib rfl (fun g2 => ?_) (fun g2 => ?_) | refine tr_ibn rfl (fun g2 => ?_) (fun g2 => ?_)
    · exact bad (fun g => g2 g.1.2)
    · iterate 1 (refine tr_mv rfl (fun _ => rfl) ?_)
      refine tr_if2 rfl (m32_of (by omega)) (fun g3 => ?_) (fun g3 => ?_)
      · have g4 : z < 0 := g3
        exact bad (fun g => by have := g.2; omega)
      · have g4 : ¬ z < 0 := g3
        obtain ⟨X, rfl⟩ : ∃ X : Nat, i = (X : Int) := ⟨i.toNat, by omega⟩
        obtain ⟨a, rfl⟩ : ∃ a : Nat, x = (a : Int) := ⟨x.toNat, by omega⟩
        have hX : X < 3 := by omega
        have ha : a < tx.length := by omega
        have htx := okTx_get hT ha
        iterate 2 (refine tr_mv rfl (fun _ => rfl) ?_)
        refine tr_vc (q := 480) rfl isO_480 rfl rfl rfl (s_210 (by decide) ?_)
        rw [b2, if_pos rfl]
        have o0 := mset0 σ 0
        have f0 : (setF σ 480 0 0).2 480 0 = 0 := setF_same ..
        generalize setF σ 480 0 0 = S at *
        obtain ⟨y1, y2, y3⟩ := hX3.of o0 (fun q i h => by omega) X hX
        have cT0 := cT.of o0 (fun q i h => by omega)
        iterate 3 (refine tr_mv rfl (fun _ => rfl) ?_)
        refine tr_vc (q := 480) rfl isO_480 rfl rfl rfl (s_227 (t := a) (by omega) (cT0.2 _ ha) htx.2.2 (a40in htx.1) (fun σ1 r1 o1 => ?_))
        have q1 : only cQ S σ1 := cQ_row o1
        iterate 2 (refine tr_mv rfl (fun _ => rfl) ?_)
        refine tr_vc (q := 480) rfl isO_480 rfl rfl rfl (s_260 (T := X) hX (y2.cq q1) y1 (y3.cq q1) r1 htx.1 (by omega) (fun σ2 m2 _ o2 => ?_))
        have q2 : only cQ S σ2 := q1.tr (cQ_eg o2)
        have qz : only cCz σ σ2 := (o0.wk (fun q i h => Or.inr h)).tr (q2.wk (fun q i h => Or.inl (Or.inl (Or.inl h))))
        have k := K2 X a σ2 rfl rfl hX ha (by omega) ((q2.2 _ _ (fun g => by have := cQ_nin g; omega)).trans f0) qz
        rw [(gthR_rel (D3 X) (o3 X 2) (tx.getD a [])).1] at m2
        have hok := gthR_ok y1 (bv := o3 X 2) htx.1 (show (tx.getD a []).length ≤ 31 by omega)
        have hln := gthR_len (D3 X) (o3 X 2) (tx.getD a [])
        unfold elA at k
        generalize (gthR (D3 X) (o3 X 2) (tx.getD a [])).1 = els at *
        repeat (first | refine tr_mgr rfl (by decide) rfl ?_ | refine tr_mgi rfl (by decide) (by decide) rfl ?_ | refine tr_mv rfl (fun _ => rfl) ?_)
        rw [m2.1]
        refine tr_cmp2 rfl (m32_of (by omega)) (m32_of (by omega)) (fun g5 => ?_) (fun g5 => ?_)
        · have g6 : (els.length : Int) ≤ z := g5
          rw [if_neg (by omega)] at k
          iterate 1 (refine tr_mv rfl (fun _ => rfl) ?_)
          exact tr_ri rfl rfl k
        · have g6 : ¬ (els.length : Int) ≤ z := g5
          rw [if_pos (by omega)] at k
          obtain ⟨j, rfl⟩ : ∃ j : Nat, z = (j : Int) := ⟨z.toNat, by omega⟩
          have hj : j < els.length := by omega
          have e1 : ∀ f : El → Int, rget (els.map f) (j : Int) = f (els.getD j (0, 0, 0, 0)) := fun f => by rw [rget_nat (by rw [List.length_map]; exact hj), getD_map hj]
          rw [e1, e1, e1] at k
          have e2 : ∀ (q : Nat) (f : El → Int), mseg σ2 q 0 (els.map f) → σ2.2 q j = f (els.getD j (0, 0, 0, 0)) := fun q f hm => by rw [hm.get0 (by rw [List.length_map]; exact hj), getD_map hj]
          repeat (first | refine tr_mgr rfl (by decide) rfl ?_ | refine tr_mgi rfl (by decide) (by decide) rfl ?_ | refine tr_mv rfl (fun _ => rfl) ?_)
          refine tr_man (j := j) rfl (by omega) (by omega) rfl (fun _ => rfl) rfl rfl rfl ?_
          rw [e2 _ _ m2.2.1]
          repeat (first | refine tr_mgr rfl (by decide) rfl ?_ | refine tr_mgi rfl (by decide) (by decide) rfl ?_ | refine tr_mv rfl (fun _ => rfl) ?_)
          refine tr_man (j := j) rfl (by omega) (by omega) rfl (fun _ => rfl) rfl rfl rfl ?_
          rw [e2 _ _ m2.2.2.1]
          repeat (first | refine tr_mgr rfl (by decide) rfl ?_ | refine tr_mgi rfl (by decide) (by decide) rfl ?_ | refine tr_mv rfl (fun _ => rfl) ?_)
          refine tr_man (j := j) rfl (by omega) (by omega) rfl (fun _ => rfl) rfl rfl rfl ?_
          rw [e2 _ _ m2.2.2.2.1]
          iterate 2 (refine tr_mv rfl (fun _ => rfl) ?_)
          exact tr_ri rfl rfl k
theorem s_272 (hT : okTx tx) (cT : mTx σ tx) (hX3 : mX3 σ D3 o3) (hi : in32 i) (hy : in32 y) (hx : in32 x) (hz : in32 z)
    (K1 : ¬ (tlTx tx.length i x ∧ 0 ≤ z) → post (.inl (some (mI 0))) (setF σ 480 0 1))
    (K2 : (tlTx tx.length i x ∧ 0 ≤ z) → ¬ (1 ≤ y ∧ y ≤ 4) → post (.inl (some (mI 0))) (setF σ 480 0 2))
    (K3 : ∀ (X a d : Nat) (σ' : Sg), i = (X : Int) → x = (a : Int) → y = (d : Int) → X < 3 → a < tx.length → (1 ≤ d ∧ d ≤ 4) → 0 ≤ z → σ'.2 480 0 = 0 → only cCz σ σ' → post (.inl (some (mI (rget (keyOf (D3 X) (o3 X) d (tx.getD a [])) z)))) σ') :
    Tr Ls N 272 0 [some (mP (some 480)), some (mI i), some (mI y), some (mI x), some (mI z), none] [] σ post := by
  have hT30 := hT.1
  have bad : ∀ (v5 : Option mV) (c : Int), c ≠ 0 → in32 c → post (.inl (some (mI 0))) (setF σ 480 0 c) → Tr Ls N 272 49 [some (mP (some 480)), some (mI i), some (mI y), some (mI x), some (mI z), v5] [mI c, mP (some 480)] σ post := by
    intro v5 c h1 h2 h3
    refine tr_vc (q := 480) rfl isO_480 rfl rfl rfl (s_210 h2 ?_)
    rw [b2, if_neg h1]
    repeat (refine tr_mv rfl (fun _ => rfl) ?_)
    exact tr_ri rfl rfl h3
  have bad1 : ¬ (tlTx tx.length i x ∧ 0 ≤ z) → Tr Ls N 272 24 [some (mP (some 480)), some (mI i), some (mI y), some (mI x), some (mI z), none] [] σ post := by
    intro g
    repeat (refine tr_mv rfl (fun _ => rfl) ?_)
    exact bad _ 1 (by decide) (by decide) (K1 g)
  iterate 1 (refine tr_mv rfl (fun _ => rfl) ?_)
  refine tr_stat rfl rfl rfl (s_219 hi ?_)
  first | refine tr_ib rfl (fun g1 => ?_) (fun g1 => ?_) | refine tr_ibn rfl (fun g1 => ?_) (fun g1 => ?_)
  · exact bad1 (fun g => g1 g.1.1)
  · iterate 2 (refine tr_mv rfl (fun _ => rfl) ?_)
    refine tr_vc (q := 480) rfl isO_480 rfl rfl rfl (s_218 hx cT.1 (by omega) ?_)
    first | refine tr_ib rfl (fun g2 => ?_) (fun g2 => ?_) | refine tr_ibn rfl (fun g2 => ?_) (fun g2 => ?_)
    · exact bad1 (fun g => g2 g.1.2)
    · iterate 1 (refine tr_mv rfl (fun _ => rfl) ?_)
      refine tr_if2 rfl (m32_of (by omega)) (fun g3 => ?_) (fun g3 => ?_)
      · have g4 : z < 0 := g3
        exact bad1 (fun g => by have := g.2; omega)
      · have g4 : ¬ z < 0 := g3
        have hB : tlTx tx.length i x ∧ 0 ≤ z := ⟨⟨g1, g2⟩, by omega⟩
        iterate 7 (refine tr_mv rfl (fun _ => rfl) ?_)
        refine tr_stat rfl rfl rfl (s_271 hy ?_)
        first | refine tr_ib rfl (fun g5 => ?_) (fun g5 => ?_) | refine tr_ibn rfl (fun g5 => ?_) (fun g5 => ?_)
        · obtain ⟨X, rfl⟩ : ∃ X : Nat, i = (X : Int) := ⟨i.toNat, by omega⟩
          obtain ⟨a, rfl⟩ : ∃ a : Nat, x = (a : Int) := ⟨x.toNat, by omega⟩
          obtain ⟨d, rfl⟩ : ∃ d : Nat, y = (d : Int) := ⟨y.toNat, by omega⟩
          have hX : X < 3 := by omega
          have ha : a < tx.length := by omega
          have htx := okTx_get hT ha
          iterate 1 (refine tr_mv rfl (fun _ => rfl) ?_)
          refine tr_vc (q := 480) rfl isO_480 rfl rfl rfl (s_210 (by decide) ?_)
          rw [b2, if_pos rfl]
          have o0 := mset0 σ 0
          have f0 : (setF σ 480 0 0).2 480 0 = 0 := setF_same ..
          generalize setF σ 480 0 0 = S at *
          obtain ⟨y1, y2, y3⟩ := hX3.of o0 (fun q i h => by omega) X hX
          have cT0 := cT.of o0 (fun q i h => by omega)
          iterate 3 (refine tr_mv rfl (fun _ => rfl) ?_)
          refine tr_vc (q := 480) rfl isO_480 rfl rfl rfl (s_227 (t := a) (by omega) (cT0.2 _ ha) htx.2.2 (a40in htx.1) (fun σ1 r1 o1 => ?_))
          have q1 : only cQ S σ1 := cQ_row o1
          iterate 3 (refine tr_mv rfl (fun _ => rfl) ?_)
          refine tr_vc (q := 480) rfl isO_480 rfl rfl rfl (s_265 (T := X) (d := d) hX (y2.cq q1) y1 (y3.cq q1) r1 htx.1 (by omega) (by omega) (fun σ2 m2 o2 => ?_))
          have q2 : only cQ S σ2 := q1.tr (cQ_ko o2)
          have qz : only cCz σ σ2 := (o0.wk (fun q i h => Or.inr h)).tr (q2.wk (fun q i h => Or.inl (Or.inl (Or.inl h))))
          have k := K3 X a d σ2 rfl rfl rfl hX ha (by omega) (by omega) ((q2.2 _ _ (fun g => by have := cQ_nin g; omega)).trans f0) qz
          have hkl := keyOf_len (D := D3 X) (o := o3 X) (d := d) (ss := tx.getD a []) (by omega) (by omega)
          generalize keyOf (D3 X) (o3 X) d (tx.getD a []) = ks at *
          repeat (first | refine tr_mgr rfl (by decide) rfl ?_ | refine tr_mgi rfl (by decide) (by decide) rfl ?_ | refine tr_mv rfl (fun _ => rfl) ?_)
          rw [m2.1]
          refine tr_cmp2 rfl (m32_of (by omega)) (m32_of (by omega)) (fun g6 => ?_) (fun g6 => ?_)
          · have g7 : (ks.length : Int) ≤ z := g6
            iterate 1 (refine tr_mv rfl (fun _ => rfl) ?_)
            refine tr_ri rfl ?_ k
            unfold rget
            rw [if_neg (by omega)]
          · have g7 : ¬ (ks.length : Int) ≤ z := g6
            repeat (first | refine tr_mgr rfl (by decide) rfl ?_ | refine tr_mgi rfl (by decide) (by decide) rfl ?_ | refine tr_mv rfl (fun _ => rfl) ?_)
            refine tr_man (j := z.toNat) rfl (by omega) (by omega) rfl (fun _ => rfl) rfl rfl rfl ?_
            rw [m2.2.get0 (by omega)]
            iterate 1 (refine tr_mv rfl (fun _ => rfl) ?_)
            refine tr_ri rfl ?_ k
            unfold rget
            rw [if_pos (by omega)]
        · iterate 2 (refine tr_mv rfl (fun _ => rfl) ?_)
          exact bad _ 2 (by decide) (by decide) (K2 hB g5)
theorem s_274 (hT : okTx tx) (cT : mTx σ tx) (hX3 : mX3 σ D3 o3) (hi : in32 i) (hy : in32 y) (hx : in32 x) (hz : in32 z)
    (K1 : ¬ tlTx2 tx.length i x z → post (.inl (some (mI 0))) (setF σ 480 0 1))
    (K2 : tlTx2 tx.length i x z → ¬ (1 ≤ y ∧ y ≤ 4) → post (.inl (some (mI 0))) (setF σ 480 0 2))
    (K3 : ∀ (X a b d : Nat) (σ' : Sg), i = (X : Int) → x = (a : Int) → z = (b : Int) → y = (d : Int) → X < 3 → a < tx.length → b < tx.length → (1 ≤ d ∧ d ≤ 4) → σ'.2 480 0 = 0 → only cCz σ σ' → post (.inl (some (mI (cmpL (keyOf (D3 X) (o3 X) d (tx.getD a [])) (keyOf (D3 X) (o3 X) d (tx.getD b [])))))) σ') :
    Tr Ls N 274 0 [some (mP (some 480)), some (mI i), some (mI y), some (mI x), some (mI z), none] [] σ post := by
  have hT30 := hT.1
  have bad : ∀ (v5 : Option mV) (c : Int), c ≠ 0 → in32 c → post (.inl (some (mI 0))) (setF σ 480 0 c) → Tr Ls N 274 53 [some (mP (some 480)), some (mI i), some (mI y), some (mI x), some (mI z), v5] [mI c, mP (some 480)] σ post := by
    intro v5 c h1 h2 h3
    refine tr_vc (q := 480) rfl isO_480 rfl rfl rfl (s_210 h2 ?_)
    rw [b2, if_neg h1]
    repeat (refine tr_mv rfl (fun _ => rfl) ?_)
    exact tr_ri rfl rfl h3
  have bad1 : ¬ tlTx2 tx.length i x z → Tr Ls N 274 28 [some (mP (some 480)), some (mI i), some (mI y), some (mI x), some (mI z), none] [] σ post := by
    intro g
    repeat (refine tr_mv rfl (fun _ => rfl) ?_)
    exact bad _ 1 (by decide) (by decide) (K1 g)
  iterate 1 (refine tr_mv rfl (fun _ => rfl) ?_)
  refine tr_stat rfl rfl rfl (s_219 hi ?_)
  first | refine tr_ib rfl (fun g1 => ?_) (fun g1 => ?_) | refine tr_ibn rfl (fun g1 => ?_) (fun g1 => ?_)
  · exact bad1 (fun g => g1 g.1)
  · iterate 2 (refine tr_mv rfl (fun _ => rfl) ?_)
    refine tr_vc (q := 480) rfl isO_480 rfl rfl rfl (s_218 hx cT.1 (by omega) ?_)
    first | refine tr_ib rfl (fun g2 => ?_) (fun g2 => ?_) | refine tr_ibn rfl (fun g2 => ?_) (fun g2 => ?_)
    · exact bad1 (fun g => g2 g.2.1)
    · iterate 2 (refine tr_mv rfl (fun _ => rfl) ?_)
      refine tr_vc (q := 480) rfl isO_480 rfl rfl rfl (s_218 hz cT.1 (by omega) ?_)
      first | refine tr_ib rfl (fun g3 => ?_) (fun g3 => ?_) | refine tr_ibn rfl (fun g3 => ?_) (fun g3 => ?_)
      · exact bad1 (fun g => g3 g.2.2)
      · iterate 7 (refine tr_mv rfl (fun _ => rfl) ?_)
        refine tr_stat rfl rfl rfl (s_271 hy ?_)
        first | refine tr_ib rfl (fun g5 => ?_) (fun g5 => ?_) | refine tr_ibn rfl (fun g5 => ?_) (fun g5 => ?_)
        · obtain ⟨X, rfl⟩ : ∃ X : Nat, i = (X : Int) := ⟨i.toNat, by omega⟩
          obtain ⟨a, rfl⟩ : ∃ a : Nat, x = (a : Int) := ⟨x.toNat, by omega⟩
          obtain ⟨b, rfl⟩ : ∃ b : Nat, z = (b : Int) := ⟨z.toNat, by omega⟩
          obtain ⟨d, rfl⟩ : ∃ d : Nat, y = (d : Int) := ⟨y.toNat, by omega⟩
          have hX : X < 3 := by omega
          have ha : a < tx.length := by omega
          have hb : b < tx.length := by omega
          have htx := okTx_get hT ha
          have htb := okTx_get hT hb
          iterate 1 (refine tr_mv rfl (fun _ => rfl) ?_)
          refine tr_vc (q := 480) rfl isO_480 rfl rfl rfl (s_210 (by decide) ?_)
          rw [b2, if_pos rfl]
          have o0 := mset0 σ 0
          have f0 : (setF σ 480 0 0).2 480 0 = 0 := setF_same ..
          generalize setF σ 480 0 0 = S at *
          obtain ⟨y1, y2, y3⟩ := hX3.of o0 (fun q i h => by omega) X hX
          have cT0 := cT.of o0 (fun q i h => by omega)
          repeat (refine tr_mv rfl (fun _ => rfl) ?_)
          refine tr_vc (q := 480) rfl isO_480 rfl rfl rfl (s_273 (T := X) (d := d) (a := a) (b := b) hX y2 y1 y3 (by omega) (cT0.2 _ ha) htx.1 htx.2.2 (by omega) (cT0.2 _ hb) htb.1 htb.2.2 (by omega) (fun σ2 o2 => ?_))
          iterate 1 (refine tr_mv rfl (fun _ => rfl) ?_)
          exact tr_ri rfl rfl (K3 X a b d σ2 rfl rfl rfl rfl hX ha hb (by omega) ((o2.2 _ _ (fun g => by have := cQ_nin g; omega)).trans f0) ((o0.wk (fun q i h => Or.inr h)).tr (o2.wk (fun q i h => Or.inl (Or.inl (Or.inl h))))))
        · iterate 2 (refine tr_mv rfl (fun _ => rfl) ?_)
          exact bad _ 2 (by decide) (by decide) (K2 ⟨g1, g2, g3⟩ g5)
theorem s_275 (hT : okTx tx) (cT : mTx σ tx) (hX3 : mX3 σ D3 o3) (hi : in32 i) (hy : in32 y) (hx : in32 x) (hz : in32 z)
    (K1 : ¬ tlTx2 tx.length i x z → post (.inl (some (mI 0))) (setF σ 480 0 1))
    (K2 : tlTx2 tx.length i x z → ¬ (1 ≤ y ∧ y ≤ 4) → post (.inl (some (mI 0))) (setF σ 480 0 2))
    (K3 : ∀ (X a b d : Nat) (σ' : Sg), i = (X : Int) → x = (a : Int) → z = (b : Int) → y = (d : Int) → X < 3 → a < tx.length → b < tx.length → (1 ≤ d ∧ d ≤ 4) → σ'.2 480 0 = 0 → only cCz σ σ' → post (.inl (some (mI (cmpL (keyOf (D3 X) (o3 X) d (tx.getD a [])) (keyOf (D3 X) (o3 X) d (tx.getD b [])))))) σ') :
    Tr Ls N 275 0 [some (mP (some 480)), some (mI i), some (mI y), some (mI x), some (mI z)] [] σ post := by
  repeat (refine tr_mv rfl (fun _ => rfl) ?_)
  refine tr_vc (q := 480) rfl isO_480 rfl rfl rfl (s_274 hT cT hX3 hi hy hx hz (fun g => ?_) (fun g1 g2 => ?_) (fun X a b d σ' h1 h2 h3 h4 h5 h6 h7 h8 h9 h10 => ?_))
  · exact tr_ri rfl rfl (K1 g)
  · exact tr_ri rfl rfl (K2 g1 g2)
  · exact tr_ri rfl rfl (K3 X a b d σ' h1 h2 h3 h4 h5 h6 h7 h8 h9 h10)
theorem s_276 (hT : okTx tx) (cT : mTx σ tx) (hX3 : mX3 σ D3 o3) (hi : in32 i) (hy : in32 y) (hx : in32 x) (hz : in32 z)
    (K1 : ¬ tlTx2 tx.length i x z → post (.inl (some (mI 0))) (setF σ 480 0 1))
    (K2 : tlTx2 tx.length i x z → ¬ (1 ≤ y ∧ y ≤ 4) → post (.inl (some (mI 0))) (setF σ 480 0 2))
    (K3 : ∀ (X a b d : Nat) (σ' : Sg), i = (X : Int) → x = (a : Int) → z = (b : Int) → y = (d : Int) → X < 3 → a < tx.length → b < tx.length → (1 ≤ d ∧ d ≤ 4) → σ'.2 480 0 = 0 → only cCz σ σ' → post (.inl (some (mI (cmpL (keyOf (D3 X) (o3 X) d (tx.getD a [])) (keyOf (D3 X) (o3 X) d (tx.getD b [])))))) σ') :
    Tr Ls N 276 0 [some (mP (some 480)), some (mI i), some (mI y), some (mI x), some (mI z)] [] σ post := by
  repeat (refine tr_mv rfl (fun _ => rfl) ?_)
  refine tr_vc (q := 480) rfl isO_480 rfl rfl rfl (s_274 hT cT hX3 hi hy hx hz (fun g => ?_) (fun g1 g2 => ?_) (fun X a b d σ' h1 h2 h3 h4 h5 h6 h7 h8 h9 h10 => ?_))
  · exact tr_ri rfl rfl (K1 g)
  · exact tr_ri rfl rfl (K2 g1 g2)
  · exact tr_ri rfl rfl (K3 X a b d σ' h1 h2 h3 h4 h5 h6 h7 h8 h9 h10)
theorem s_279b (hT : T < 3) (hM : tlM T σ D) (hD : okTD D) (hO : opM T σ o) (ha : a < 30) (hX : txM σ a ss) (h40 : okA40 ss) (hls : ss.length ≤ 30) (hb : b < 30) (hXb : txM σ b ys) (h40b : okA40 ys) (hlb : ys.length ≤ 30) (hd : d ≤ 4) (hx : 1000 ≤ x ∧ x < 2147483648)
    (K : ∀ σ', only cQ σ σ' → post (.inl (some (mI (-1)))) σ') :
    Tr Ls N 279 0 [some (mP (some 480)), some (mI (T : Int)), some (mI (d : Int)), some (mI (a : Int)), some (mI (b : Int)), some (mI x), none, none, none, none] [] σ post := by
  repeat (first | refine tr_mgr rfl (by decide) rfl ?_ | refine tr_mgi rfl (by decide) (by decide) rfl ?_ | refine tr_mv rfl (fun _ => rfl) ?_)
  refine tr_vc (q := 480) rfl isO_480 rfl rfl rfl (s_277 hT hM hD hO ha hX h40 hls (fun σ1 B hB hbits p1 => ?_))
  repeat (first | refine tr_mgr rfl (by decide) rfl ?_ | refine tr_mgi rfl (by decide) (by decide) rfl ?_ | refine tr_mv rfl (fun _ => rfl) ?_)
  refine tr_vc (q := 480) rfl isO_480 rfl rfl rfl (s_227 hb (hXb.cq p1) hlb (a40in h40b) (fun σ2 r2 o2 => ?_))
  have p2 := p1.tr (cQ_row o2)
  repeat (first | refine tr_mgr rfl (by decide) rfl ?_ | refine tr_mgi rfl (by decide) (by decide) rfl ?_ | refine tr_mv rfl (fun _ => rfl) ?_)
  refine tr_vc (q := 480) rfl isO_480 rfl rfl rfl (s_265 hT (hM.cq p2) hD (hO.cq p2) r2 h40b (by omega) hd (fun σ3 k3 o3 => ?_))
  have p3 := p2.tr (cQ_ko o3)
  repeat (first | refine tr_mgr rfl (by decide) rfl ?_ | refine tr_mgi rfl (by decide) (by decide) rfl ?_ | refine tr_mv rfl (fun _ => rfl) ?_)
  refine tr_vc (q := 480) rfl isO_480 rfl rfl rfl (s_266 k3 (keyOf_len (by omega) hd) (fun σ4 k4 o4 => ?_))
  have p4 := p3.tr (cQ_ot o4)
  iterate 2 (refine tr_mv rfl (fun _ => rfl) ?_)
  repeat (first | refine tr_mgr rfl (by decide) rfl ?_ | refine tr_mgi rfl (by decide) (by decide) rfl ?_ | refine tr_mv rfl (fun _ => rfl) ?_)
  refine tr_man (j := a) rfl (by omega) (by omega) rfl (fun _ => rfl) rfl rfl rfl ?_
  rw [(hX.cq p4).1]
  refine tr_cmp2 rfl (m32_of (by omega)) (m32_of (by omega)) (fun _ => ?_) (fun c1 => absurd (show (ss.length : Int) ≤ x by omega) c1)
  iterate 1 (refine tr_mv rfl (fun _ => rfl) ?_)
  exact tr_ri rfl rfl (K σ4 p4)
theorem s_280 (hT : okTx tx) (cT : mTx σ tx) (hX3 : mX3 σ D3 o3) (hi : in32 i) (hy : in32 y) (hx : in32 x) (hz : in32 z) (hu : in32 u)
    (K1 : ¬ (tlTx2 tx.length i x z ∧ 0 ≤ u) → post (.inl (some (mI 0))) (setF σ 480 0 1))
    (K2 : (tlTx2 tx.length i x z ∧ 0 ≤ u) → ¬ (1 ≤ y ∧ y ≤ 4) → post (.inl (some (mI 0))) (setF σ 480 0 2))
    (K3 : ∀ (X a b d : Nat) (σ' : Sg), i = (X : Int) → x = (a : Int) → z = (b : Int) → y = (d : Int) → X < 3 → a < tx.length → b < tx.length → (1 ≤ d ∧ d ≤ 4) → 0 ≤ u → σ'.2 480 0 = 0 → only cCz σ σ' → post (.inl (some (mI (fnA (D3 X) (o3 X) d (tx.getD a []) (tx.getD b []) u)))) σ') :
    Tr Ls N 280 0 [some (mP (some 480)), some (mI i), some (mI y), some (mI x), some (mI z), some (mI u), none] [] σ post := by
  have hT30 := hT.1
  have bad : ∀ (v6 : Option mV) (c : Int), c ≠ 0 → in32 c → post (.inl (some (mI 0))) (setF σ 480 0 c) → Tr Ls N 280 58 [some (mP (some 480)), some (mI i), some (mI y), some (mI x), some (mI z), some (mI u), v6] [mI c, mP (some 480)] σ post := by
    intro v6 c h1 h2 h3
    refine tr_vc (q := 480) rfl isO_480 rfl rfl rfl (s_210 h2 ?_)
    rw [b2, if_neg h1]
    repeat (refine tr_mv rfl (fun _ => rfl) ?_)
    exact tr_ri rfl rfl h3
  have bad1 : ¬ (tlTx2 tx.length i x z ∧ 0 ≤ u) → Tr Ls N 280 33 [some (mP (some 480)), some (mI i), some (mI y), some (mI x), some (mI z), some (mI u), none] [] σ post := by
    intro g
    repeat (refine tr_mv rfl (fun _ => rfl) ?_)
    exact bad _ 1 (by decide) (by decide) (K1 g)
  iterate 1 (refine tr_mv rfl (fun _ => rfl) ?_)
  refine tr_stat rfl rfl rfl (s_219 hi ?_)
  first | refine tr_ib rfl (fun g1 => ?_) (fun g1 => ?_) | refine tr_ibn rfl (fun g1 => ?_) (fun g1 => ?_)
  · exact bad1 (fun g => g1 g.1.1)
  · iterate 2 (refine tr_mv rfl (fun _ => rfl) ?_)
    refine tr_vc (q := 480) rfl isO_480 rfl rfl rfl (s_218 hx cT.1 (by omega) ?_)
    first | refine tr_ib rfl (fun g2 => ?_) (fun g2 => ?_) | refine tr_ibn rfl (fun g2 => ?_) (fun g2 => ?_)
    · exact bad1 (fun g => g2 g.1.2.1)
    · iterate 2 (refine tr_mv rfl (fun _ => rfl) ?_)
      refine tr_vc (q := 480) rfl isO_480 rfl rfl rfl (s_218 hz cT.1 (by omega) ?_)
      first | refine tr_ib rfl (fun g3 => ?_) (fun g3 => ?_) | refine tr_ibn rfl (fun g3 => ?_) (fun g3 => ?_)
      · exact bad1 (fun g => g3 g.1.2.2)
      · iterate 1 (refine tr_mv rfl (fun _ => rfl) ?_)
        refine tr_if2 rfl (m32_of (by omega)) (fun g4 => ?_) (fun g4 => ?_)
        · have g6 : u < 0 := g4
          exact bad1 (fun g => by have := g.2; omega)
        · have g6 : ¬ u < 0 := g4
          have hB : tlTx2 tx.length i x z ∧ 0 ≤ u := ⟨⟨g1, g2, g3⟩, by omega⟩
          iterate 7 (refine tr_mv rfl (fun _ => rfl) ?_)
          refine tr_stat rfl rfl rfl (s_271 hy ?_)
          first | refine tr_ib rfl (fun g5 => ?_) (fun g5 => ?_) | refine tr_ibn rfl (fun g5 => ?_) (fun g5 => ?_)
          · obtain ⟨X, rfl⟩ : ∃ X : Nat, i = (X : Int) := ⟨i.toNat, by omega⟩
            obtain ⟨a, rfl⟩ : ∃ a : Nat, x = (a : Int) := ⟨x.toNat, by omega⟩
            obtain ⟨b, rfl⟩ : ∃ b : Nat, z = (b : Int) := ⟨z.toNat, by omega⟩
            obtain ⟨d, rfl⟩ : ∃ d : Nat, y = (d : Int) := ⟨y.toNat, by omega⟩
            have hX : X < 3 := by omega
            have ha : a < tx.length := by omega
            have hb : b < tx.length := by omega
            have htx := okTx_get hT ha
            have htb := okTx_get hT hb
            iterate 1 (refine tr_mv rfl (fun _ => rfl) ?_)
            refine tr_vc (q := 480) rfl isO_480 rfl rfl rfl (s_210 (by decide) ?_)
            rw [b2, if_pos rfl]
            have o0 := mset0 σ 0
            have f0 : (setF σ 480 0 0).2 480 0 = 0 := setF_same ..
            generalize setF σ 480 0 0 = S at *
            obtain ⟨y1, y2, y3⟩ := hX3.of o0 (fun q i h => by omega) X hX
            have cT0 := cT.of o0 (fun q i h => by omega)
            repeat (refine tr_mv rfl (fun _ => rfl) ?_)
            by_cases g7 : u < 2147483647
            · refine tr_vc (q := 480) rfl isO_480 rfl rfl rfl (s_279 (T := X) (d := d) (a := a) (b := b) hX y2 y1 y3 (by omega) (cT0.2 _ ha) htx.1 htx.2.2 (by omega) (cT0.2 _ hb) htb.1 htb.2.2 (by omega) (by omega) (fun σ2 o2 => ?_))
              iterate 1 (refine tr_mv rfl (fun _ => rfl) ?_)
              exact tr_ri rfl rfl (K3 X a b d σ2 rfl rfl rfl rfl hX ha hb (by omega) (by omega) ((o2.2 _ _ (fun g => by have := cQ_nin g; omega)).trans f0) ((o0.wk (fun q i h => Or.inr h)).tr (o2.wk (fun q i h => Or.inl (Or.inl (Or.inl h))))))
            · refine tr_vc (q := 480) rfl isO_480 rfl rfl rfl (s_279b (T := X) (d := d) (a := a) (b := b) hX y2 y1 y3 (by omega) (cT0.2 _ ha) htx.1 htx.2.2 (by omega) (cT0.2 _ hb) htb.1 htb.2.2 (by omega) (by omega) (fun σ2 o2 => ?_))
              have k := K3 X a b d σ2 rfl rfl rfl rfl hX ha hb (by omega) (by omega) ((o2.2 _ _ (fun g => by have := cQ_nin g; omega)).trans f0) ((o0.wk (fun q i h => Or.inr h)).tr (o2.wk (fun q i h => Or.inl (Or.inl (Or.inl h)))))
              rw [fnA_big (by omega) (by omega)] at k
              iterate 1 (refine tr_mv rfl (fun _ => rfl) ?_)
              exact tr_ri rfl rfl k
          · iterate 2 (refine tr_mv rfl (fun _ => rfl) ?_)
            exact bad _ 2 (by decide) (by decide) (K2 hB g5)
end MKEYS2
