/-! The class: elements, keys, comparing, finding, asked by number. -/
section CKEYS
variable {Ls N k pc n n' nn b c t a q d p X T F kd w : Nat} {L L0 : mLs} {st r as : List mV} {h h' : mH} {σ σ' σ'' : Sg} {post : tP} {x y z x' y' i i' s v m u how it : Int} {xs ys is ans an ds dA ss ss2 : List Int} {e : mE} {C : Nat → Nat → Prop} {D : TD} {R RF : RuT} {Rr : Nat → Prop} {tx : List (List Int)} {en : List EnT} {D3 : Nat → TD} {o : Nat → Int} {o3 : Nat → Nat → Int} {R3 : Nat → RuT} {B M : Int → Int}
theorem s_10b (ht : isT t) (hD2 : okTD D) (hD : tlC t σ D) (hO : opC t σ o) (hb : isRow b n) (hbs : sgRow b) (hb9 : b ≠ 139) (hs : σ.1 b = ss) (h40 : okA40 ss) (hls : ss.length ≤ 31) (ha : isRow a n') (has : sgRow a) (hs2 : σ.1 a = ss2) (h402 : okA40 ss2) (hls2 : ss2.length ≤ 31) (hd : d ≤ 4) (hx : 1000 ≤ x ∧ x < 2147483648)
    (K : ∀ σ', chg colR colC σ σ' → post (.inl (some (mI (-1)))) σ') :
    Tr Ls N 10 0 [some (mP (some 108)), some (mP (some t)), some (mI (d : Int)), some (mP (some b)), some (mP (some a)), some (mI x), none, none] [] σ post := by
  repeat (first | refine tr_gr rfl ⟨by decide, rfl⟩ (by decide) rfl ?_ | refine tr_gi rfl (by decide) ⟨by decide, rfl⟩ (by decide) rfl rfl ?_ | refine tr_gr rfl (by assumption) (by decide) (by assumption) ?_ | refine tr_gi rfl (by decide) (by assumption) (by decide) (by assumption) (by assumption) ?_ | (refine tr_rem ?_ ?_ rfl ?_; omega; omega) | (refine tr_div ?_ ?_ rfl ?_; omega; omega) | refine tr_mv rfl (fun _ => rfl) ?_ | refine tr_ia2 (m32_of (by omega)) (by omega) rfl (fun _ => rfl) rfl (by decide) (by decide) (fun _ => rfl) ?_ | refine tr_size (by assumption) rfl rfl ?_ | refine tr_at2 (by assumption) (m32_of (by omega)) rfl rfl ?_)
  refine tr_vc (q := 109) rfl (L_O el109) rfl rfl rfl (s_35 ht el109 hD2 hD hO hb (by omega) hs h40 hls (fun σ1 g1 g2 => ?_))
  have c1 := g2.wk (el_col el109) (el_colC el109)
  repeat (first | refine tr_gr rfl ⟨by decide, rfl⟩ (by decide) rfl ?_ | refine tr_gi rfl (by decide) ⟨by decide, rfl⟩ (by decide) rfl rfl ?_ | refine tr_gr rfl (by assumption) (by decide) (by assumption) ?_ | refine tr_gi rfl (by decide) (by assumption) (by decide) (by assumption) (by assumption) ?_ | (refine tr_rem ?_ ?_ rfl ?_; omega; omega) | (refine tr_div ?_ ?_ rfl ?_; omega; omega) | refine tr_mv rfl (fun _ => rfl) ?_ | refine tr_ia2 (m32_of (by omega)) (by omega) rfl (fun _ => rfl) rfl (by decide) (by decide) (fun _ => rfl) ?_ | refine tr_size (by assumption) rfl rfl ?_ | refine tr_at2 (by assumption) (m32_of (by omega)) rfl rfl ?_)
  refine tr_vc (q := 108) rfl ⟨by decide, by decide +kernel⟩ rfl rfl rfl (s_2 ht hD2 (hD.col c1 ht) (hO.col c1 ht) ha has ((g2.1 a (by omega)).trans hs2) h402 hls2 hd (kb137 ht) (by omega) (fun σ2 g3 g4 => ?_))
  have c2 := c1.tr (g4.wk (pk_col (Or.inr rfl)) pk_colC)
  iterate 4 (refine tr_mv rfl (fun _ => rfl) ?_)
  refine tr_size hb rfl rfl ?_
  rw [c2.1 b (by omega), hs]
  refine tr_cmp2 rfl (m32_of (by omega)) (m32_of (by omega)) (fun _ => ?_) (fun c1 => absurd (show (ss.length : Int) ≤ x by omega) c1)
  iterate 1 (refine tr_mv rfl (fun _ => rfl) ?_)
  exact tr_ri rfl rfl (K σ2 c2)
theorem fnA_big {what : List Int} (h : (ss.length : Int) ≤ u) (h0 : 0 ≤ u) : fnA D o d ss what u = -1 := by
  unfold fnA
  rw [show ss.length - u.toNat = 0 by omega]
  rfl
abbrev tlTx (n : Nat) (i x : Int) : Prop := (0 ≤ i ∧ i < 3) ∧ 0 ≤ x ∧ x < (n : Int)
theorem s_151 (hT : okTx tx) (cT : cTx σ tx) (hX3 : cX3 σ tx en D3 o3) (hi : in32 i) (hx : in32 x) (hz : in32 z)
    (K1 : ¬ (tlTx tx.length i x ∧ 0 ≤ z) → post (.inr 0) σ)
    (K2 : ∀ (X a : Nat) (σ' : Sg), i = (X : Int) → x = (a : Int) → X < 3 → a < tx.length → 0 ≤ z → chg colR colC σ σ' → post (.inl (some (mI (elA (D3 X) (o3 X) (tx.getD a []) z)))) σ') :
    Tr Ls (N + 1) 151 0 [some (mP (some 2)), some (mI i), some (mI x), some (mI z)] [] σ post := by
  have hT30 := hT.1
  iterate 1 (refine tr_mv rfl (fun _ => rfl) ?_)
  refine tr_stat rfl rfl rfl (s_174 hi ?_)
  first | refine tr_ib rfl (fun g1 => ?_) (fun g1 => ?_) | refine tr_ibn rfl (fun g1 => ?_) (fun g1 => ?_)
  · exact tr_throw rfl (K1 (fun g => g1 g.1.1))
  · iterate 2 (refine tr_mv rfl (fun _ => rfl) ?_)
    refine tr_vc (q := 2) rfl ⟨by decide, by decide +kernel⟩ rfl rfl rfl (s_166 hx (by rw [cT.1]; omega) ?_)
    rw [cT.1]
    first | refine tr_ib rfl (fun g2 => ?_) (fun g2 => ?_) | refine tr_ibn rfl (fun g2 => ?_) (fun g2 => ?_)
    · exact tr_throw rfl (K1 (fun g => g2 g.1.2))
    · iterate 1 (refine tr_mv rfl (fun _ => rfl) ?_)
      refine tr_if2 rfl (m32_of (by omega)) (fun g3 => ?_) (fun g3 => ?_)
      · have g4 : 0 ≤ z := g3
        obtain ⟨X, rfl⟩ : ∃ X : Nat, i = (X : Int) := ⟨i.toNat, by omega⟩
        obtain ⟨a, rfl⟩ : ∃ a : Nat, x = (a : Int) := ⟨x.toNat, by omega⟩
        have hX : X < 3 := by omega
        have ha : a < tx.length := by omega
        obtain ⟨y1, y2, y3, y4⟩ := hX3 X hX
        have htx := okTx_get hT ha
        iterate 1 (refine tr_mv rfl (fun _ => rfl) ?_)
        refine tr_gr rfl ⟨by decide, by decide +kernel⟩ (by decide) rfl ?_
        iterate 1 (refine tr_mv rfl (fun _ => rfl) ?_)
        refine tr_gr rfl ⟨by decide, by decide +kernel⟩ (by decide) rfl ?_
        iterate 1 (refine tr_mv rfl (fun _ => rfl) ?_)
        refine tr_aan (d := X) (w := (273 + 29 * X)) (nn := 3) rfl hX (by decide) rfl (by decide +kernel) (by decide) (F_3 X hX).1 ?_
        iterate 2 (refine tr_mv rfl (fun _ => rfl) ?_)
        refine tr_vc (q := 2) rfl ⟨by decide, by decide +kernel⟩ rfl rfl rfl (s_169 (p := a) (by omega) ?_)
        iterate 1 (refine tr_mv rfl (fun _ => rfl) ?_)
        refine tr_vc (q := 108) rfl ⟨by decide, by decide +kernel⟩ rfl rfl rfl (s_1 (t_Tl hX) y1 y2 y3 (r_T (by omega)) (by omega) (cT.2 _ ha) htx.1 (by omega) hz (fun σ2 o2 => ?_))
        exact tr_ri rfl rfl (K2 X a σ2 rfl rfl hX ha g4 o2)
      · have g4 : ¬ 0 ≤ z := g3
        exact tr_throw rfl (K1 (fun g => g4 g.2))
theorem s_152 (hT : okTx tx) (cT : cTx σ tx) (hX3 : cX3 σ tx en D3 o3) (hi : in32 i) (hy : in32 y) (hx : in32 x) (hz : in32 z)
    (K1 : ¬ (tlTx tx.length i x ∧ 0 ≤ z) → post (.inr 0) σ)
    (K2 : (tlTx tx.length i x ∧ 0 ≤ z) → ¬ (1 ≤ y ∧ y ≤ 4) → post (.inr 1) σ)
    (K3 : ∀ (X a d : Nat) (σ' : Sg), i = (X : Int) → x = (a : Int) → y = (d : Int) → X < 3 → a < tx.length → (1 ≤ d ∧ d ≤ 4) → 0 ≤ z → chg colR colC σ σ' → post (.inl (some (mI (rget (keyOf (D3 X) (o3 X) d (tx.getD a [])) z)))) σ') :
    Tr Ls (N + 1) 152 0 [some (mP (some 2)), some (mI i), some (mI y), some (mI x), some (mI z)] [] σ post := by
  have hT30 := hT.1
  iterate 1 (refine tr_mv rfl (fun _ => rfl) ?_)
  refine tr_stat rfl rfl rfl (s_174 hi ?_)
  first | refine tr_ib rfl (fun g1 => ?_) (fun g1 => ?_) | refine tr_ibn rfl (fun g1 => ?_) (fun g1 => ?_)
  · exact tr_throw rfl (K1 (fun g => g1 g.1.1))
  · iterate 2 (refine tr_mv rfl (fun _ => rfl) ?_)
    refine tr_vc (q := 2) rfl ⟨by decide, by decide +kernel⟩ rfl rfl rfl (s_166 hx (by rw [cT.1]; omega) ?_)
    rw [cT.1]
    first | refine tr_ib rfl (fun g2 => ?_) (fun g2 => ?_) | refine tr_ibn rfl (fun g2 => ?_) (fun g2 => ?_)
    · exact tr_throw rfl (K1 (fun g => g2 g.1.2))
    · iterate 1 (refine tr_mv rfl (fun _ => rfl) ?_)
      refine tr_if2 rfl (m32_of (by omega)) (fun g3 => ?_) (fun g3 => ?_)
      · have g4 : 0 ≤ z := g3
        iterate 1 (refine tr_mv rfl (fun _ => rfl) ?_)
        refine tr_stat rfl rfl rfl (s_175 hy ?_)
        first | refine tr_ib rfl (fun g5 => ?_) (fun g5 => ?_) | refine tr_ibn rfl (fun g5 => ?_) (fun g5 => ?_)
        · obtain ⟨X, rfl⟩ : ∃ X : Nat, i = (X : Int) := ⟨i.toNat, by omega⟩
          obtain ⟨a, rfl⟩ : ∃ a : Nat, x = (a : Int) := ⟨x.toNat, by omega⟩
          obtain ⟨d, rfl⟩ : ∃ d : Nat, y = (d : Int) := ⟨y.toNat, by omega⟩
          have hX : X < 3 := by omega
          have ha : a < tx.length := by omega
          obtain ⟨y1, y2, y3, y4⟩ := hX3 X hX
          have htx := okTx_get hT ha
          iterate 1 (refine tr_mv rfl (fun _ => rfl) ?_)
          refine tr_gr rfl ⟨by decide, by decide +kernel⟩ (by decide) rfl ?_
          iterate 1 (refine tr_mv rfl (fun _ => rfl) ?_)
          refine tr_gr rfl ⟨by decide, by decide +kernel⟩ (by decide) rfl ?_
          iterate 1 (refine tr_mv rfl (fun _ => rfl) ?_)
          refine tr_aan (d := X) (w := (273 + 29 * X)) (nn := 3) rfl hX (by decide) rfl (by decide +kernel) (by decide) (F_3 X hX).1 ?_
          iterate 3 (refine tr_mv rfl (fun _ => rfl) ?_)
          refine tr_vc (q := 2) rfl ⟨by decide, by decide +kernel⟩ rfl rfl rfl (s_169 (p := a) (by omega) ?_)
          iterate 1 (refine tr_mv rfl (fun _ => rfl) ?_)
          refine tr_vc (q := 108) rfl ⟨by decide, by decide +kernel⟩ rfl rfl rfl (s_7 (d := d) (t_Tl hX) y1 y2 y3 (r_T (by omega)) (by omega) (cT.2 _ ha) htx.1 (by omega) (by omega) hz (fun σ2 o2 => ?_))
          exact tr_ri rfl rfl (K3 X a d σ2 rfl rfl rfl hX ha (by omega) g4 o2)
        · exact tr_throw rfl (K2 ⟨⟨g1, g2⟩, g4⟩ g5)
      · have g4 : ¬ 0 ≤ z := g3
        exact tr_throw rfl (K1 (fun g => g4 g.2))
abbrev tlTx2 (n : Nat) (i x z : Int) : Prop := (0 ≤ i ∧ i < 3) ∧ (0 ≤ x ∧ x < (n : Int)) ∧ 0 ≤ z ∧ z < (n : Int)
theorem s_153 (hT : okTx tx) (cT : cTx σ tx) (hX3 : cX3 σ tx en D3 o3) (hi : in32 i) (hy : in32 y) (hx : in32 x) (hz : in32 z)
    (K1 : ¬ tlTx2 tx.length i x z → post (.inr 0) σ)
    (K2 : tlTx2 tx.length i x z → ¬ (1 ≤ y ∧ y ≤ 4) → post (.inr 1) σ)
    (K3 : ∀ (X a b d : Nat) (σ' : Sg), i = (X : Int) → x = (a : Int) → z = (b : Int) → y = (d : Int) → X < 3 → a < tx.length → b < tx.length → (1 ≤ d ∧ d ≤ 4) → chg colR colC σ σ' → post (.inl (some (mI (cmpL (keyOf (D3 X) (o3 X) d (tx.getD a [])) (keyOf (D3 X) (o3 X) d (tx.getD b [])))))) σ') :
    Tr Ls (N + 1) 153 0 [some (mP (some 2)), some (mI i), some (mI y), some (mI x), some (mI z)] [] σ post := by
  have hT30 := hT.1
  iterate 1 (refine tr_mv rfl (fun _ => rfl) ?_)
  refine tr_stat rfl rfl rfl (s_174 hi ?_)
  first | refine tr_ib rfl (fun g1 => ?_) (fun g1 => ?_) | refine tr_ibn rfl (fun g1 => ?_) (fun g1 => ?_)
  · exact tr_throw rfl (K1 (fun g => g1 g.1))
  · iterate 2 (refine tr_mv rfl (fun _ => rfl) ?_)
    refine tr_vc (q := 2) rfl ⟨by decide, by decide +kernel⟩ rfl rfl rfl (s_166 hx (by rw [cT.1]; omega) ?_)
    rw [cT.1]
    first | refine tr_ib rfl (fun g2 => ?_) (fun g2 => ?_) | refine tr_ibn rfl (fun g2 => ?_) (fun g2 => ?_)
    · exact tr_throw rfl (K1 (fun g => g2 g.2.1))
    · iterate 2 (refine tr_mv rfl (fun _ => rfl) ?_)
      refine tr_vc (q := 2) rfl ⟨by decide, by decide +kernel⟩ rfl rfl rfl (s_166 hz (by rw [cT.1]; omega) ?_)
      rw [cT.1]
      first | refine tr_ib rfl (fun g3 => ?_) (fun g3 => ?_) | refine tr_ibn rfl (fun g3 => ?_) (fun g3 => ?_)
      · iterate 1 (refine tr_mv rfl (fun _ => rfl) ?_)
        refine tr_stat rfl rfl rfl (s_175 hy ?_)
        first | refine tr_ib rfl (fun g5 => ?_) (fun g5 => ?_) | refine tr_ibn rfl (fun g5 => ?_) (fun g5 => ?_)
        · obtain ⟨X, rfl⟩ : ∃ X : Nat, i = (X : Int) := ⟨i.toNat, by omega⟩
          obtain ⟨a, rfl⟩ : ∃ a : Nat, x = (a : Int) := ⟨x.toNat, by omega⟩
          obtain ⟨b, rfl⟩ : ∃ b : Nat, z = (b : Int) := ⟨z.toNat, by omega⟩
          obtain ⟨d, rfl⟩ : ∃ d : Nat, y = (d : Int) := ⟨y.toNat, by omega⟩
          have hX : X < 3 := by omega
          have ha : a < tx.length := by omega
          have hb : b < tx.length := by omega
          obtain ⟨y1, y2, y3, y4⟩ := hX3 X hX
          have htx := okTx_get hT ha
          have htb := okTx_get hT hb
          iterate 1 (refine tr_mv rfl (fun _ => rfl) ?_)
          refine tr_gr rfl ⟨by decide, by decide +kernel⟩ (by decide) rfl ?_
          iterate 1 (refine tr_mv rfl (fun _ => rfl) ?_)
          refine tr_gr rfl ⟨by decide, by decide +kernel⟩ (by decide) rfl ?_
          iterate 1 (refine tr_mv rfl (fun _ => rfl) ?_)
          refine tr_aan (d := X) (w := (273 + 29 * X)) (nn := 3) rfl hX (by decide) rfl (by decide +kernel) (by decide) (F_3 X hX).1 ?_
          iterate 3 (refine tr_mv rfl (fun _ => rfl) ?_)
          refine tr_vc (q := 2) rfl ⟨by decide, by decide +kernel⟩ rfl rfl rfl (s_169 (p := a) (by omega) ?_)
          iterate 2 (refine tr_mv rfl (fun _ => rfl) ?_)
          refine tr_vc (q := 2) rfl ⟨by decide, by decide +kernel⟩ rfl rfl rfl (s_169 (p := b) (by omega) ?_)
          refine tr_vc (q := 108) rfl ⟨by decide, by decide +kernel⟩ rfl rfl rfl (s_8 (d := d) (t_Tl hX) y1 y2 y3 (r_T (by omega)) (by omega) (cT.2 _ ha) htx.1 (by omega) (r_T (by omega)) (by omega) (cT.2 _ hb) htb.1 (by omega) (by omega) (fun σ2 o2 => ?_))
          exact tr_ri rfl rfl (K3 X a b d σ2 rfl rfl rfl rfl hX ha hb (by omega) o2)
        · exact tr_throw rfl (K2 ⟨g1, g2, g3⟩ g5)
      · exact tr_throw rfl (K1 (fun g => g3 g.2.2))
theorem s_154 (hT : okTx tx) (cT : cTx σ tx) (hX3 : cX3 σ tx en D3 o3) (hi : in32 i) (hy : in32 y) (hx : in32 x) (hz : in32 z)
    (K1 : ¬ tlTx2 tx.length i x z → post (.inr 0) σ)
    (K2 : tlTx2 tx.length i x z → ¬ (1 ≤ y ∧ y ≤ 4) → post (.inr 1) σ)
    (K3 : ∀ (X a b d : Nat) (σ' : Sg), i = (X : Int) → x = (a : Int) → z = (b : Int) → y = (d : Int) → X < 3 → a < tx.length → b < tx.length → (1 ≤ d ∧ d ≤ 4) → chg colR colC σ σ' → post (.inl (some (mI (cmpL (keyOf (D3 X) (o3 X) d (tx.getD a [])) (keyOf (D3 X) (o3 X) d (tx.getD b [])))))) σ') :
    Tr Ls (N + 1) 154 0 [some (mP (some 2)), some (mI i), some (mI y), some (mI x), some (mI z)] [] σ post := by
  have hT30 := hT.1
  iterate 1 (refine tr_mv rfl (fun _ => rfl) ?_)
  refine tr_stat rfl rfl rfl (s_174 hi ?_)
  first | refine tr_ib rfl (fun g1 => ?_) (fun g1 => ?_) | refine tr_ibn rfl (fun g1 => ?_) (fun g1 => ?_)
  · exact tr_throw rfl (K1 (fun g => g1 g.1))
  · iterate 2 (refine tr_mv rfl (fun _ => rfl) ?_)
    refine tr_vc (q := 2) rfl ⟨by decide, by decide +kernel⟩ rfl rfl rfl (s_166 hx (by rw [cT.1]; omega) ?_)
    rw [cT.1]
    first | refine tr_ib rfl (fun g2 => ?_) (fun g2 => ?_) | refine tr_ibn rfl (fun g2 => ?_) (fun g2 => ?_)
    · exact tr_throw rfl (K1 (fun g => g2 g.2.1))
    · iterate 2 (refine tr_mv rfl (fun _ => rfl) ?_)
      refine tr_vc (q := 2) rfl ⟨by decide, by decide +kernel⟩ rfl rfl rfl (s_166 hz (by rw [cT.1]; omega) ?_)
      rw [cT.1]
      first | refine tr_ib rfl (fun g3 => ?_) (fun g3 => ?_) | refine tr_ibn rfl (fun g3 => ?_) (fun g3 => ?_)
      · iterate 1 (refine tr_mv rfl (fun _ => rfl) ?_)
        refine tr_stat rfl rfl rfl (s_175 hy ?_)
        first | refine tr_ib rfl (fun g5 => ?_) (fun g5 => ?_) | refine tr_ibn rfl (fun g5 => ?_) (fun g5 => ?_)
        · obtain ⟨X, rfl⟩ : ∃ X : Nat, i = (X : Int) := ⟨i.toNat, by omega⟩
          obtain ⟨a, rfl⟩ : ∃ a : Nat, x = (a : Int) := ⟨x.toNat, by omega⟩
          obtain ⟨b, rfl⟩ : ∃ b : Nat, z = (b : Int) := ⟨z.toNat, by omega⟩
          obtain ⟨d, rfl⟩ : ∃ d : Nat, y = (d : Int) := ⟨y.toNat, by omega⟩
          have hX : X < 3 := by omega
          have ha : a < tx.length := by omega
          have hb : b < tx.length := by omega
          obtain ⟨y1, y2, y3, y4⟩ := hX3 X hX
          have htx := okTx_get hT ha
          have htb := okTx_get hT hb
          iterate 1 (refine tr_mv rfl (fun _ => rfl) ?_)
          refine tr_gr rfl ⟨by decide, by decide +kernel⟩ (by decide) rfl ?_
          iterate 1 (refine tr_mv rfl (fun _ => rfl) ?_)
          refine tr_gr rfl ⟨by decide, by decide +kernel⟩ (by decide) rfl ?_
          iterate 1 (refine tr_mv rfl (fun _ => rfl) ?_)
          refine tr_aan (d := X) (w := (273 + 29 * X)) (nn := 3) rfl hX (by decide) rfl (by decide +kernel) (by decide) (F_3 X hX).1 ?_
          iterate 3 (refine tr_mv rfl (fun _ => rfl) ?_)
          refine tr_vc (q := 2) rfl ⟨by decide, by decide +kernel⟩ rfl rfl rfl (s_169 (p := a) (by omega) ?_)
          iterate 2 (refine tr_mv rfl (fun _ => rfl) ?_)
          refine tr_vc (q := 2) rfl ⟨by decide, by decide +kernel⟩ rfl rfl rfl (s_169 (p := b) (by omega) ?_)
          refine tr_vc (q := 108) rfl ⟨by decide, by decide +kernel⟩ rfl rfl rfl (s_9 (d := d) (t_Tl hX) y1 y2 y3 (r_T (by omega)) (by omega) (cT.2 _ ha) htx.1 (by omega) (r_T (by omega)) (by omega) (cT.2 _ hb) htb.1 (by omega) (by omega) (fun σ2 o2 => ?_))
          rw [cmp_keyOf y1 htx.1 (by omega) htb.1 (by omega)]
          exact tr_ri rfl rfl (K3 X a b d σ2 rfl rfl rfl rfl hX ha hb (by omega) o2)
        · exact tr_throw rfl (K2 ⟨g1, g2, g3⟩ g5)
      · exact tr_throw rfl (K1 (fun g => g3 g.2.2))
theorem s_155 (hT : okTx tx) (cT : cTx σ tx) (hX3 : cX3 σ tx en D3 o3) (hi : in32 i) (hy : in32 y) (hx : in32 x) (hz : in32 z) (hu : in32 u)
    (K1 : ¬ (tlTx2 tx.length i x z ∧ 0 ≤ u) → post (.inr 0) σ)
    (K2 : (tlTx2 tx.length i x z ∧ 0 ≤ u) → ¬ (1 ≤ y ∧ y ≤ 4) → post (.inr 1) σ)
    (K3 : ∀ (X a b d : Nat) (σ' : Sg), i = (X : Int) → x = (a : Int) → z = (b : Int) → y = (d : Int) → X < 3 → a < tx.length → b < tx.length → (1 ≤ d ∧ d ≤ 4) → 0 ≤ u → chg colR colC σ σ' → post (.inl (some (mI (fnA (D3 X) (o3 X) d (tx.getD a []) (tx.getD b []) u)))) σ') :
    Tr Ls (N + 1) 155 0 [some (mP (some 2)), some (mI i), some (mI y), some (mI x), some (mI z), some (mI u)] [] σ post := by
  have hT30 := hT.1
  iterate 1 (refine tr_mv rfl (fun _ => rfl) ?_)
  refine tr_stat rfl rfl rfl (s_174 hi ?_)
  first | refine tr_ib rfl (fun g1 => ?_) (fun g1 => ?_) | refine tr_ibn rfl (fun g1 => ?_) (fun g1 => ?_)
  · exact tr_throw rfl (K1 (fun g => g1 g.1.1))
  · iterate 2 (refine tr_mv rfl (fun _ => rfl) ?_)
    refine tr_vc (q := 2) rfl ⟨by decide, by decide +kernel⟩ rfl rfl rfl (s_166 hx (by rw [cT.1]; omega) ?_)
    rw [cT.1]
    first | refine tr_ib rfl (fun g2 => ?_) (fun g2 => ?_) | refine tr_ibn rfl (fun g2 => ?_) (fun g2 => ?_)
    · exact tr_throw rfl (K1 (fun g => g2 g.1.2.1))
    · iterate 2 (refine tr_mv rfl (fun _ => rfl) ?_)
      refine tr_vc (q := 2) rfl ⟨by decide, by decide +kernel⟩ rfl rfl rfl (s_166 hz (by rw [cT.1]; omega) ?_)
      rw [cT.1]
      first | refine tr_ib rfl (fun g3 => ?_) (fun g3 => ?_) | refine tr_ibn rfl (fun g3 => ?_) (fun g3 => ?_)
      · exact tr_throw rfl (K1 (fun g => g3 g.1.2.2))
      · iterate 1 (refine tr_mv rfl (fun _ => rfl) ?_)
        refine tr_if2 rfl (m32_of (by omega)) (fun g4 => ?_) (fun g4 => ?_)
        · have g6 : 0 ≤ u := g4
          iterate 1 (refine tr_mv rfl (fun _ => rfl) ?_)
          refine tr_stat rfl rfl rfl (s_175 hy ?_)
          first | refine tr_ib rfl (fun g5 => ?_) (fun g5 => ?_) | refine tr_ibn rfl (fun g5 => ?_) (fun g5 => ?_)
          · obtain ⟨X, rfl⟩ : ∃ X : Nat, i = (X : Int) := ⟨i.toNat, by omega⟩
            obtain ⟨a, rfl⟩ : ∃ a : Nat, x = (a : Int) := ⟨x.toNat, by omega⟩
            obtain ⟨b, rfl⟩ : ∃ b : Nat, z = (b : Int) := ⟨z.toNat, by omega⟩
            obtain ⟨d, rfl⟩ : ∃ d : Nat, y = (d : Int) := ⟨y.toNat, by omega⟩
            have hX : X < 3 := by omega
            have ha : a < tx.length := by omega
            have hb : b < tx.length := by omega
            obtain ⟨y1, y2, y3, y4⟩ := hX3 X hX
            have htx := okTx_get hT ha
            have htb := okTx_get hT hb
            iterate 1 (refine tr_mv rfl (fun _ => rfl) ?_)
            refine tr_gr rfl ⟨by decide, by decide +kernel⟩ (by decide) rfl ?_
            iterate 1 (refine tr_mv rfl (fun _ => rfl) ?_)
            refine tr_gr rfl ⟨by decide, by decide +kernel⟩ (by decide) rfl ?_
            iterate 1 (refine tr_mv rfl (fun _ => rfl) ?_)
            refine tr_aan (d := X) (w := (273 + 29 * X)) (nn := 3) rfl hX (by decide) rfl (by decide +kernel) (by decide) (F_3 X hX).1 ?_
            iterate 3 (refine tr_mv rfl (fun _ => rfl) ?_)
            refine tr_vc (q := 2) rfl ⟨by decide, by decide +kernel⟩ rfl rfl rfl (s_169 (p := a) (by omega) ?_)
            iterate 2 (refine tr_mv rfl (fun _ => rfl) ?_)
            refine tr_vc (q := 2) rfl ⟨by decide, by decide +kernel⟩ rfl rfl rfl (s_169 (p := b) (by omega) ?_)
            iterate 1 (refine tr_mv rfl (fun _ => rfl) ?_)
            by_cases g7 : u < 2147483647
            · refine tr_vc (q := 108) rfl ⟨by decide, by decide +kernel⟩ rfl rfl rfl (s_10 (d := d) (t_Tl hX) y1 y2 y3 (r_T (by omega)) (by omega) (by omega) (cT.2 _ ha) htx.1 (by omega) (r_T (by omega)) (by omega) (cT.2 _ hb) htb.1 (by omega) (by omega) ⟨g6, g7⟩ (fun σ2 o2 => ?_))
              exact tr_ri rfl rfl (K3 X a b d σ2 rfl rfl rfl rfl hX ha hb (by omega) g6 o2)
            · refine tr_vc (q := 108) rfl ⟨by decide, by decide +kernel⟩ rfl rfl rfl (s_10b (d := d) (t_Tl hX) y1 y2 y3 (r_T (by omega)) (by omega) (by omega) (cT.2 _ ha) htx.1 (by omega) (r_T (by omega)) (by omega) (cT.2 _ hb) htb.1 (by omega) (by omega) (by omega) (fun σ2 o2 => ?_))
              have k := K3 X a b d σ2 rfl rfl rfl rfl hX ha hb (by omega) g6 o2
              rw [fnA_big (by omega) g6] at k
              exact tr_ri rfl rfl k
          · exact tr_throw rfl (K2 ⟨⟨g1, g2, g3⟩, g6⟩ g5)
        · have g6 : ¬ 0 ≤ u := g4
          exact tr_throw rfl (K1 (fun g => g6 g.2))
end CKEYS
