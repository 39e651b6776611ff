/-! The class: elements, keys, comparing, finding, asked by number. -/
section CKEYS
variable {Ls N k pc n n' nn b c t a q d p X T F kd w : Nat} {L L0 : mLs} {st r as : List mV} {h h' : mH} {σ σ' σ'' : Sg} {post : tP} {x y z x' y' i i' s v m u how it : Int} {xs ys is ans an ds dA ss ss2 : List Int} {e : mE} {C : Nat → Nat → Prop} {D : TD} {R RF : RuT} {Rr : Nat → Prop} {tx : List (List Int)} {en : List EnT} {D3 : Nat → TD} {o : Nat → Int} {o3 : Nat → Nat → Int} {R3 : Nat → RuT} {B M : Int → Int}
abbrev tlTx (n : Nat) (i x : Int) : Prop := (0 ≤ i ∧ i < 3) ∧ 0 ≤ x ∧ x < (n : Int)
theorem s_152 (hT : okTx tx) (cT : cTx σ tx) (hX3 : cX3 σ tx en D3 o3) (hi : in32 i) (hy : in32 y) (hx : in32 x) (hz : in32 z)
    (K1 : ¬ (tlTx tx.length i x ∧ 0 ≤ z) → post (.inr 0) σ)
    (K2 : (tlTx tx.length i x ∧ 0 ≤ z) → ¬ (1 ≤ y ∧ y ≤ 4) → post (.inr 1) σ)
    (K3 : ∀ (X a d : Nat) (σ' : Sg), i = (X : Int) → x = (a : Int) → y = (d : Int) → X < 3 → a < tx.length → (1 ≤ d ∧ d ≤ 4) → 0 ≤ z → chg colR colC σ σ' → post (.inl (some (mI (rget (keyOf (D3 X) (o3 X) d (tx.getD a [])) z)))) σ') :
    Tr Ls (N + 1) 152 0 [some (mP (some 2)), some (mI i), some (mI y), some (mI x), some (mI z)] [] σ post := by
  have hT30 := hT.1
  iterate 1 (refine tr_mv rfl (fun _ => rfl) ?_)
  refine tr_stat rfl rfl rfl (s_174 hi ?_)
  first | refine tr_ib rfl (fun g1 => ?_) (fun g1 => ?_) | refine tr_ibn rfl (fun g1 => ?_) (fun g1 => ?_)
  · exact tr_throw rfl (K1 (fun g => g1 g.1.1))
  · iterate 2 (refine tr_mv rfl (fun _ => rfl) ?_)
    refine tr_vc (q := 2) rfl ⟨by decide, by decide +kernel⟩ rfl rfl rfl (s_166 hx (by rw [cT.1]; omega) ?_)
    rw [cT.1]
    first | refine tr_ib rfl (fun g2 => ?_) (fun g2 => ?_) | refine tr_ibn rfl (fun g2 => ?_) (fun g2 => ?_)
    · exact tr_throw rfl (K1 (fun g => g2 g.1.2))
    · iterate 1 (refine tr_mv rfl (fun _ => rfl) ?_)
      refine tr_if2 rfl (m32_of (by omega)) (fun g3 => ?_) (fun g3 => ?_)
      · have g4 : 0 ≤ z := g3
        iterate 1 (refine tr_mv rfl (fun _ => rfl) ?_)
        refine tr_stat rfl rfl rfl (s_175 hy ?_)
        first | refine tr_ib rfl (fun g5 => ?_) (fun g5 => ?_) | refine tr_ibn rfl (fun g5 => ?_) (fun g5 => ?_)
        · obtain ⟨X, rfl⟩ : ∃ X : Nat, i = (X : Int) := ⟨i.toNat, by omega⟩
          obtain ⟨a, rfl⟩ : ∃ a : Nat, x = (a : Int) := ⟨x.toNat, by omega⟩
          obtain ⟨d, rfl⟩ : ∃ d : Nat, y = (d : Int) := ⟨y.toNat, by omega⟩
          have hX : X < 3 := by omega
          have ha : a < tx.length := by omega
          obtain ⟨y1, y2, y3, y4⟩ := hX3 X hX
          have htx := okTx_get hT ha
          iterate 1 (refine tr_mv rfl (fun _ => rfl) ?_)
          refine tr_gr rfl ⟨by decide, by decide +kernel⟩ (by decide) rfl ?_
          iterate 1 (refine tr_mv rfl (fun _ => rfl) ?_)
          refine tr_gr rfl ⟨by decide, by decide +kernel⟩ (by decide) rfl ?_
          iterate 1 (refine tr_mv rfl (fun _ => rfl) ?_)
          refine tr_aan (d := X) (w := (273 + 29 * X)) (nn := 3) rfl hX (by decide) rfl (by decide +kernel) (by decide) (F_3 X hX).1 ?_
          iterate 3 (refine tr_mv rfl (fun _ => rfl) ?_)
          refine tr_vc (q := 2) rfl ⟨by decide, by decide +kernel⟩ rfl rfl rfl (s_169 (p := a) (by omega) ?_)
          iterate 1 (refine tr_mv rfl (fun _ => rfl) ?_)
          refine tr_vc (q := 108) rfl ⟨by decide, by decide +kernel⟩ rfl rfl rfl (s_7 (d := d) (t_Tl hX) y1 y2 y3 (r_T (by omega)) (by omega) (cT.2 _ ha) htx.1 (by omega) (by omega) hz (fun σ2 o2 => ?_))
          exact tr_ri rfl rfl (K3 X a d σ2 rfl rfl rfl hX ha (by omega) g4 o2)
        · exact tr_throw rfl (K2 ⟨⟨g1, g2⟩, g4⟩ g5)
      · have g4 : ¬ 0 ≤ z := g3
        exact tr_throw rfl (K1 (fun g => g4 g.2))
abbrev tlTx2 (n : Nat) (i x z : Int) : Prop := (0 ≤ i ∧ i < 3) ∧ (0 ≤ x ∧ x < (n : Int)) ∧ 0 ≤ z ∧ z < (n : Int)
theorem s_153 (hT : okTx tx) (cT : cTx σ tx) (hX3 : cX3 σ tx en D3 o3) (hi : in32 i) (hy : in32 y) (hx : in32 x) (hz : in32 z)
    (K1 : ¬ tlTx2 tx.length i x z → post (.inr 0) σ)
    (K2 : tlTx2 tx.length i x z → ¬ (1 ≤ y ∧ y ≤ 4) → post (.inr 1) σ)
    (K3 : ∀ (X a b d : Nat) (σ' : Sg), i = (X : Int) → x = (a : Int) → z = (b : Int) → y = (d : Int) → X < 3 → a < tx.length → b < tx.length → (1 ≤ d ∧ d ≤ 4) → chg colR colC σ σ' → post (.inl (some (mI (cmpL (keyOf (D3 X) (o3 X) d (tx.getD a [])) (keyOf (D3 X) (o3 X) d (tx.getD b [])))))) σ') :
    Tr Ls (N + 1) 153 0 [some (mP (some 2)), some (mI i), some (mI y), some (mI x), some (mI z)] [] σ post := by
  have hT30 := hT.1
  iterate 1 (refine tr_mv rfl (fun _ => rfl) ?_)
  refine tr_stat rfl rfl rfl (s_174 hi ?_)
  first | refine tr_ib rfl (fun g1 => ?_) (fun g1 => ?_) | refine tr_ibn rfl (fun g1 => ?_) (fun g1 => ?_)
  · exact tr_throw rfl (K1 (fun g => g1 g.1))
  · iterate 2 (refine tr_mv rfl (fun _ => rfl) ?_)
    refine tr_vc (q := 2) rfl ⟨by decide, by decide +kernel⟩ rfl rfl rfl (s_166 hx (by rw [cT.1]; omega) ?_)
    rw [cT.1]
    first | refine tr_ib rfl (fun g2 => ?_) (fun g2 => ?_) | refine tr_ibn rfl (fun g2 => ?_) (fun g2 => ?_)
    · exact tr_throw rfl (K1 (fun g => g2 g.2.1))
    · iterate 2 (refine tr_mv rfl (fun _ => rfl) ?_)
      refine tr_vc (q := 2) rfl ⟨by decide, by decide +kernel⟩ rfl rfl rfl (s_166 hz (by rw [cT.1]; omega) ?_)
      rw [cT.1]
      first | refine tr_ib rfl (fun g3 => ?_) (fun g3 => ?_) | refine tr_ibn rfl (fun g3 => ?_) (fun g3 => ?_)
      · iterate 1 (refine tr_mv rfl (fun _ => rfl) ?_)
        refine tr_stat rfl rfl rfl (s_175 hy ?_)
        first | refine tr_ib rfl (fun g5 => ?_) (fun g5 => ?_) | refine tr_ibn rfl (fun g5 => ?_) (fun g5 => ?_)
        · obtain ⟨X, rfl⟩ : ∃ X : Nat, i = (X : Int) := ⟨i.toNat, by omega⟩
          obtain ⟨a, rfl⟩ : ∃ a : Nat, x = (a : Int) := ⟨x.toNat, by omega⟩
          obtain ⟨b, rfl⟩ : ∃ b : Nat, z = (b : Int) := ⟨z.toNat, by omega⟩
          obtain ⟨d, rfl⟩ : ∃ d : Nat, y = (d : Int) := ⟨y.toNat, by omega⟩
          have hX : X < 3 := by omega
          have ha : a < tx.length := by omega
          have hb : b < tx.length := by omega
          obtain ⟨y1, y2, y3, y4⟩ := hX3 X hX
          have htx := okTx_get hT ha
          have htb := okTx_get hT hb
          iterate 1 (refine tr_mv rfl (fun _ => rfl) ?_)
          refine tr_gr rfl ⟨by decide, by decide +kernel⟩ (by decide) rfl ?_
          iterate 1 (refine tr_mv rfl (fun _ => rfl) ?_)
          refine tr_gr rfl ⟨by decide, by decide +kernel⟩ (by decide) rfl ?_
          iterate 1 (refine tr_mv rfl (fun _ => rfl) ?_)
          refine tr_aan (d := X) (w := (273 + 29 * X)) (nn := 3) rfl hX (by decide) rfl (by decide +kernel) (by decide) (F_3 X hX).1 ?_
          iterate 3 (refine tr_mv rfl (fun _ => rfl) ?_)
          refine tr_vc (q := 2) rfl ⟨by decide, by decide +kernel⟩ rfl rfl rfl (s_169 (p := a) (by omega) ?_)
          iterate 2 (refine tr_mv rfl (fun _ => rfl) ?_)
          refine tr_vc (q := 2) rfl ⟨by decide, by decide +kernel⟩ rfl rfl rfl (s_169 (p := b) (by omega) ?_)
          refine tr_vc (q := 108) rfl ⟨by decide, by decide +kernel⟩ rfl rfl rfl (s_8 (d := d) (t_Tl hX) y1 y2 y3 (r_T (by omega)) (by omega) (cT.2 _ ha) htx.1 (by omega) (r_T (by omega)) (by omega) (cT.2 _ hb) htb.1 (by omega) (by omega) (fun σ2 o2 => ?_))
          exact tr_ri rfl rfl (K3 X a b d σ2 rfl rfl rfl rfl hX ha hb (by omega) o2)
        · exact tr_throw rfl (K2 ⟨g1, g2, g3⟩ g5)
      · exact tr_throw rfl (K1 (fun g => g3 g.2.2))
theorem s_154 (hT : okTx tx) (cT : cTx σ tx) (hX3 : cX3 σ tx en D3 o3) (hi : in32 i) (hy : in32 y) (hx : in32 x) (hz : in32 z)
    (K1 : ¬ tlTx2 tx.length i x z → post (.inr 0) σ)
    (K2 : tlTx2 tx.length i x z → ¬ (1 ≤ y ∧ y ≤ 4) → post (.inr 1) σ)
    (K3 : ∀ (X a b d : Nat) (σ' : Sg), i = (X : Int) → x = (a : Int) → z = (b : Int) → y = (d : Int) → X < 3 → a < tx.length → b < tx.length → (1 ≤ d ∧ d ≤ 4) → chg colR colC σ σ' → post (.inl (some (mI (cmpL (keyOf (D3 X) (o3 X) d (tx.getD a [])) (keyOf (D3 X) (o3 X) d (tx.getD b [])))))) σ') :
    Tr Ls (N + 1) 154 0 [some (mP (some 2)), some (mI i), some (mI y), some (mI x), some (mI z)] [] σ post := by
  have hT30 := hT.1
  iterate 1 (refine tr_mv rfl (fun _ => rfl) ?_)
  refine tr_stat rfl rfl rfl (s_174 hi ?_)
  first | refine tr_ib rfl (fun g1 => ?_) (fun g1 => ?_) | refine tr_ibn rfl (fun g1 => ?_) (fun g1 => ?_)
  · exact tr_throw rfl (K1 (fun g => g1 g.1))
  · iterate 2 (refine tr_mv rfl (fun _ => rfl) ?_)
    refine tr_vc (q := 2) rfl ⟨by decide, by decide +kernel⟩ rfl rfl rfl (s_166 hx (by rw [cT.1]; omega) ?_)
    rw [cT.1]
    first | refine tr_ib rfl (fun g2 => ?_) (fun g2 => ?_) | refine tr_ibn rfl (fun g2 => ?_) (fun g2 => ?_)
    · exact tr_throw rfl (K1 (fun g => g2 g.2.1))
    · iterate 2 (refine tr_mv rfl (fun _ => rfl) ?_)
      refine tr_vc (q := 2) rfl ⟨by decide, by decide +kernel⟩ rfl rfl rfl (s_166 hz (by rw [cT.1]; omega) ?_)
      rw [cT.1]
      first | refine tr_ib rfl (fun g3 => ?_) (fun g3 => ?_) | refine tr_ibn rfl (fun g3 => ?_) (fun g3 => ?_)
      · iterate 1 (refine tr_mv rfl (fun _ => rfl) ?_)
        refine tr_stat rfl rfl rfl (s_175 hy ?_)
        first | refine tr_ib rfl (fun g5 => ?_) (fun g5 => ?_) | refine tr_ibn rfl (fun g5 => ?_) (fun g5 => ?_)
        · obtain ⟨X, rfl⟩ : ∃ X : Nat, i = (X : Int) := ⟨i.toNat, by omega⟩
          obtain ⟨a, rfl⟩ : ∃ a : Nat, x = (a : Int) := ⟨x.toNat, by omega⟩
          obtain ⟨b, rfl⟩ : ∃ b : Nat, z = (b : Int) := ⟨z.toNat, by omega⟩
          obtain ⟨d, rfl⟩ : ∃ d : Nat, y = (d : Int) := ⟨y.toNat, by omega⟩
          have hX : X < 3 := by omega
          have ha : a < tx.length := by omega
          have hb : b < tx.length := by omega
          obtain ⟨y1, y2, y3, y4⟩ := hX3 X hX
          have htx := okTx_get hT ha
          have htb := okTx_get hT hb
          iterate 1 (refine tr_mv rfl (fun _ => rfl) ?_)
          refine tr_gr rfl ⟨by decide, by decide +kernel⟩ (by decide) rfl ?_
          iterate 1 (refine tr_mv rfl (fun _ => rfl) ?_)
          refine tr_gr rfl ⟨by decide, by decide +kernel⟩ (by decide) rfl ?_
          iterate 1 (refine tr_mv rfl (fun _ => rfl) ?_)
          refine tr_aan (d := X) (w := (273 + 29 * X)) (nn := 3) rfl hX (by decide) rfl (by decide +kernel) (by decide) (F_3 X hX).1 ?_
          iterate 3 (refine tr_mv rfl (fun _ => rfl) ?_)
          refine tr_vc (q := 2) rfl ⟨by decide, by decide +kernel⟩ rfl rfl rfl (s_169 (p := a) (by omega) ?_)
          iterate 2 (refine tr_mv rfl (fun _ => rfl) ?_)
          refine tr_vc (q := 2) rfl ⟨by decide, by decide +kernel⟩ rfl rfl rfl (s_169 (p := b) (by omega) ?_)
          refine tr_vc (q := 108) rfl ⟨by decide, by decide +kernel⟩ rfl rfl rfl (s_9 (d := d) (t_Tl hX) y1 y2 y3 (r_T (by omega)) (by omega) (cT.2 _ ha) htx.1 (by omega) (r_T (by omega)) (by omega) (cT.2 _ hb) htb.1 (by omega) (by omega) (fun σ2 o2 => ?_))
          rw [cmp_keyOf y1 htx.1 (by omega) htb.1 (by omega)]
          exact tr_ri rfl rfl (K3 X a b d σ2 rfl rfl rfl rfl hX ha hb (by omega) o2)
        · exact tr_throw rfl (K2 ⟨g1, g2, g3⟩ g5)
      · exact tr_throw rfl (K1 (fun g => g3 g.2.2))
end CKEYS
