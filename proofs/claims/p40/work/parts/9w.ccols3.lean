/-! Columns: the class's (3); what is in an index. -/
abbrev inXE (en : List EnT) (i x : Int) : Prop := (0 ≤ i ∧ i < 3) ∧ (0 ≤ x ∧ x < (en.length : Int)) ∧ inE en i.toNat x.toNat = true
abbrev colE (tx : List (List Int)) (en : List EnT) (D : TD) (o hd : Nat → Int) (tg : Nat → List Int) (hh ww : Int) (X a : Nat) : Int := colF hh (sbE en) (hgE tx en D o hd) (lnX tg ww en) a (0, 0, -1) (ordE tx en D o X)
section CCOLS3
variable {Ls N k pc n n' nn b c t a q kd w d p X T : Nat} {L0 : mLs} {st r as : List mV} {h h' : mH} {σ σ' σ'' : Sg} {post : tP} {x y z x' y' i i' s v m u lv hh ww : Int} {xs ys ss L M A B : List Int} {e : mE} {C : Nat → Nat → Prop} {R : Nat → Prop} {tx : List (List Int)} {en : List EnT} {D : TD} {o hd : Nat → Int} {tg : Nat → List Int} {s1 d1 : Bool} {D3 : Nat → TD} {o3 : Nat → Nat → Int}
theorem s_168 (hE : okEn tx en) (cE : cEn σ en) (hi : in32 i) (hx : in32 x) (K : post (.inl (some (mI (b2 (inXE en i x))))) σ) : Tr Ls N 168 0 [some (mP (some 2)), some (mI i), some (mI x)] [] σ post := by
  have hE24 := hE.1
  iterate 1 (refine tr_mv rfl (fun _ => rfl) ?_)
  refine tr_stat rfl rfl rfl (s_174 hi ?_)
  first | refine tr_ib rfl (fun g1 => ?_) (fun g1 => ?_) | refine tr_ibn rfl (fun g1 => ?_) (fun g1 => ?_)
  · iterate 1 (refine tr_mv rfl (fun _ => rfl) ?_)
    exact tr_rb0 rfl (fun g => g1 g.1) K
  · iterate 2 (refine tr_mv rfl (fun _ => rfl) ?_)
    refine tr_vc (q := 2) rfl ⟨by decide, by decide +kernel⟩ rfl rfl rfl (s_167 hx (by rw [cE.1]; omega) ?_)
    rw [cE.1]
    first | refine tr_ib rfl (fun g2 => ?_) (fun g2 => ?_) | refine tr_ibn rfl (fun g2 => ?_) (fun g2 => ?_)
    · iterate 1 (refine tr_mv rfl (fun _ => rfl) ?_)
      exact tr_rb0 rfl (fun g => g2 g.2.1) K
    · obtain ⟨X, rfl⟩ : ∃ X : Nat, i = (X : Int) := ⟨i.toNat, by omega⟩
      obtain ⟨a, rfl⟩ : ∃ a : Nat, x = (a : Int) := ⟨x.toNat, by omega⟩
      have ha : a < en.length := by omega
      have he := (hE.2.1 _ (en_mem ha)).2.1
      rw [b2_congr (show inXE en (X : Int) (a : Int) ↔ enS (en.getD a enD) / 2 ^ X % 2 = 1 from ⟨fun g => of_decide_eq_true g.2.2, fun g => ⟨g1, g2, decide_eq_true g⟩⟩)] at K
      iterate 2 (refine tr_mv rfl (fun _ => rfl) ?_)
      refine tr_vc (q := 2) rfl ⟨by decide, by decide +kernel⟩ rfl rfl rfl (s_171 (p := a) (by omega) ?_)
      iterate 1 (refine tr_mv rfl (fun _ => rfl) ?_)
      refine tr_vc (q := (360 + 5 * a)) rfl (E_O (e_E (by omega))) rfl rfl rfl (s_54 (e_E (by omega)) (cE.2.1 a ha).2.2 (by omega) (by omega) ?_)
      first | refine tr_ib rfl (fun g3 => ?_) (fun g3 => ?_) | refine tr_ibn rfl (fun g3 => ?_) (fun g3 => ?_)
      · iterate 1 (refine tr_mv rfl (fun _ => rfl) ?_)
        exact tr_rb0 rfl g3 K
      · iterate 2 (refine tr_mv rfl (fun _ => rfl) ?_)
        exact tr_rb1 rfl g3 K
/-- what holds on the class's side of the three indexes -/
def cX3 (σ : Sg) (tx : List (List Int)) (en : List EnT) (D3 : Nat → TD) (o3 : Nat → Nat → Int) : Prop := ∀ X, X < 3 → okTD (D3 X) ∧ tlC (273 + 29 * X) σ (D3 X) ∧ opC (273 + 29 * X) σ (o3 X) ∧ cOrd σ X tx en (D3 X) (o3 X)
theorem s_163 (ch : σ.2 2 14 = hh) (hh2 : 4 ≤ hh ∧ hh ≤ 40) (cw : σ.2 2 13 = ww) (hw : 4 ≤ ww ∧ ww ≤ 40) (hT : okTx tx) (hE : okEn tx en) (cT : cTx σ tx) (cE : cEn σ en) (hok : ∀ e ∈ en, okLoc (enL e) (enM e)) (hX3 : cX3 σ tx en D3 o3) (hH : cHd σ hd) (hg : cTg σ tx tg) (hg2 : okTg tx tg) (hi : in32 i) (hx : in32 x)
    (K1 : ¬ inXE en i x → post (.inr 0) σ)
    (K2 : ∀ (X a : Nat) (σ' : Sg), i = (X : Int) → x = (a : Int) → X < 3 → a < en.length → inE en X a = true → σ'.2 (295 + 29 * X) 3 = 1 → σ'.1 ((295 + 29 * X) + 1) = ci (ordE tx en (D3 X) (o3 X) X) → σ'.1 ((295 + 29 * X) + 3) = fwsE tx en (D3 X) (o3 X) → chg (fun r => orR X r ∨ lcR r) (orC X) σ σ' → post (.inl (some (mI (colE tx en (D3 X) (o3 X) hd tg hh ww X a)))) σ') :
    Tr Ls (N + 1) 163 0 [some (mP (some 2)), some (mI i), some (mI x)] [] σ post := by
  have hE24 := hE.1
  have hT30 := hT.1
  iterate 3 (refine tr_mv rfl (fun _ => rfl) ?_)
  refine tr_vc (q := 2) rfl ⟨by decide, by decide +kernel⟩ rfl rfl rfl (s_168 hE cE hi hx ?_)
  first | refine tr_ib rfl (fun g1 => ?_) (fun g1 => ?_) | refine tr_ibn rfl (fun g1 => ?_) (fun g1 => ?_)
  · obtain ⟨h1, h2, h3⟩ := g1
    obtain ⟨X, rfl⟩ : ∃ X : Nat, i = (X : Int) := ⟨i.toNat, by omega⟩
    obtain ⟨a, rfl⟩ : ∃ a : Nat, x = (a : Int) := ⟨x.toNat, by omega⟩
    have hX : X < 3 := by omega
    have ha : a < en.length := by omega
    obtain ⟨y1, y2, y3, y4⟩ := hX3 X hX
    iterate 4 (refine tr_mv rfl (fun _ => rfl) ?_)
    refine tr_vc (q := 2) rfl ⟨by decide, by decide +kernel⟩ rfl rfl rfl (s_188 hX hT hE cT cE y1 y2 y3 y4 (fun σ1 z1 z2 z3 z4 => ?_))
    iterate 1 (refine tr_mv rfl (fun _ => rfl) ?_)
    have v1 : ∀ i, i ≠ 9999 → σ1.2 2 i = σ.2 2 i := fun i _ => z4.2 _ _ (fun g => by omega)
    refine tr_vc (q := 2) rfl ⟨by decide, by decide +kernel⟩ rfl rfl rfl (s_200 (tg := tg) (D := D3 X) (o := o3 X) (hd := hd) (a := a) ((v1 14 (by decide)).trans ch) hh2 ((v1 13 (by decide)).trans cw) hw hX hT hE (cT.of z4 hT30 (fun r h => by omega) (by omega)) (cE.of z4 hE24 (fun r h => by omega) (by omega) (fun q i h => by omega)) hok y1 (y2.of z4 (fun r h => by omega)) (hH.of z4 (fun i => by omega)) (hg.of z4 (fun q i h => by omega)) hg2 z3 z2 ((ordE_mem hE X).mpr ⟨ha, h3⟩) (fun σ2 o2 => ?_))
    refine tr_ri rfl rfl (K2 X a σ2 rfl rfl hX ha h3 ((o2.2 _ _ (fun g => g)).trans z1) ((o2.1 _ (by omega)).trans z2) ((o2.1 _ (by omega)).trans z3) ((z4.wk (fun r h => Or.inl h) (fun q i h => h)).tr (o2.wk (fun r h => Or.inr h) (fun q i h => absurd h (fun g => g)))))
  · exact tr_throw rfl (K1 g1)
theorem s_157 (hT : okTx tx) (hE : okEn tx en) (cT : cTx σ tx) (cE : cEn σ en) (hX3 : cX3 σ tx en D3 o3) (hi : in32 i) (hx : in32 x)
    (K1 : ∀ σ', ¬ (0 ≤ i ∧ i < 3) → σ' = σ → post (.inr 0) σ')
    (K2 : ∀ (X : Nat) (σ' : Sg), i = (X : Int) → X < 3 → ¬ (0 ≤ x ∧ x < ((ordE tx en (D3 X) (o3 X) X).length : Int)) → (σ' = σ ∨ (σ'.2 (295 + 29 * X) 3 = 1 ∧ σ'.1 ((295 + 29 * X) + 1) = ci (ordE tx en (D3 X) (o3 X) X) ∧ σ'.1 ((295 + 29 * X) + 3) = fwsE tx en (D3 X) (o3 X))) → chg (orR X) (orC X) σ σ' → post (.inr 0) σ')
    (K3 : ∀ (X j : Nat) (σ' : Sg), i = (X : Int) → X < 3 → x = (j : Int) → j < (ordE tx en (D3 X) (o3 X) X).length → σ'.2 (295 + 29 * X) 3 = 1 → σ'.1 ((295 + 29 * X) + 1) = ci (ordE tx en (D3 X) (o3 X) X) → σ'.1 ((295 + 29 * X) + 3) = fwsE tx en (D3 X) (o3 X) → chg (orR X) (orC X) σ σ' → post (.inl (some (mI (((ordE tx en (D3 X) (o3 X) X).getD j 0 : Nat) : Int)))) σ') :
    Tr Ls (N + 1) 157 0 [some (mP (some 2)), some (mI i), some (mI x)] [] σ post := by
  have hE24 := hE.1
  have hT30 := hT.1
  iterate 1 (refine tr_mv rfl (fun _ => rfl) ?_)
  refine tr_stat rfl rfl rfl (s_174 hi ?_)
  first | refine tr_ib rfl (fun g1 => ?_) (fun g1 => ?_) | refine tr_ibn rfl (fun g1 => ?_) (fun g1 => ?_)
  · exact tr_throw rfl (K1 σ g1 rfl)
  · obtain ⟨X, rfl⟩ : ∃ X : Nat, i = (X : Int) := ⟨i.toNat, by omega⟩
    have hX : X < 3 := by omega
    obtain ⟨y1, y2, y3, y4⟩ := hX3 X hX
    have hol := ordE_len (D := D3 X) (o := o3 X) hE X
    have hcl : (ci (ordE tx en (D3 X) (o3 X) X)).length = (ordE tx en (D3 X) (o3 X) X).length := by simp
    iterate 1 (refine tr_mv rfl (fun _ => rfl) ?_)
    refine tr_if2 rfl (m32_of (by omega)) (fun g2 => ?_) (fun g2 => ?_)
    · have g3 : x < 0 := g2
      exact tr_throw rfl (K2 X σ rfl hX (fun g => by omega) (Or.inl rfl) chg.rf)
    · have g3 : ¬ x < 0 := g2
      iterate 3 (refine tr_mv rfl (fun _ => rfl) ?_)
      refine tr_vc (q := 2) rfl ⟨by decide, by decide +kernel⟩ rfl rfl rfl (s_188 hX hT hE cT cE y1 y2 y3 y4 (fun σ1 z1 z2 z3 z4 => ?_))
      refine tr_size (X_r0 hX) rfl rfl ?_
      rw [z2, hcl]
      refine tr_cmp2 rfl (m32_of (by omega)) (m32_of (by omega)) (fun g4 => ?_) (fun g4 => ?_)
      · have g5 : x < ((ordE tx en (D3 X) (o3 X) X).length : Int) := g4
        obtain ⟨j, rfl⟩ : ∃ j : Nat, x = (j : Int) := ⟨x.toNat, by omega⟩
        iterate 2 (refine tr_mv rfl (fun _ => rfl) ?_)
        refine tr_vc (q := 2) rfl ⟨by decide, by decide +kernel⟩ rfl rfl rfl (s_188 hX hT hE (cT.of z4 hT30 (fun r h => by omega) (by omega)) (cE.of z4 hE24 (fun r h => by omega) (by omega) (fun q i h => by omega)) y1 (y2.of z4 (fun r h => by omega)) (y3.of z4 (fun j => by omega)) (Or.inr ⟨z1, z2, z3⟩) (fun σ2 w1 w2 w3 w4 => ?_))
        iterate 1 (refine tr_mv rfl (fun _ => rfl) ?_)
        refine tr_at2 (X_r0 hX) (m32_of (by omega)) rfl rfl ?_
        have hv : rget (σ2.1 ((295 + 29 * X) + 1)) (j : Int) = (((ordE tx en (D3 X) (o3 X) X).getD j 0 : Nat) : Int) := by
          rw [w2, rget_nat (by rw [List.length_map]; omega), List.getD_eq_getElem?_getD, List.getD_eq_getElem?_getD, List.getElem?_map]
          cases (ordE tx en (D3 X) (o3 X) X)[j]? <;> rfl
        rw [hv]
        exact tr_ri rfl rfl (K3 X j σ2 rfl hX rfl (by omega) w1 w2 w3 (z4.tr w4))
      · have g5 : ¬ x < ((ordE tx en (D3 X) (o3 X) X).length : Int) := g4
        exact tr_throw rfl (K2 X σ1 rfl hX (fun g => g5 g.2) (Or.inr ⟨z1, z2, z3⟩) z4)
theorem s_158 (hT : okTx tx) (hE : okEn tx en) (cT : cTx σ tx) (cE : cEn σ en) (hX3 : cX3 σ tx en D3 o3) (hH : cHd σ hd) (hi : in32 i) (hx : in32 x)
    (K1 : ¬ inXE en i x → post (.inr 0) σ)
    (K2 : ∀ (X a : Nat) (σ' : Sg), i = (X : Int) → x = (a : Int) → X < 3 → a < en.length → inE en X a = true → σ'.2 (295 + 29 * X) 3 = 1 → σ'.1 ((295 + 29 * X) + 1) = ci (ordE tx en (D3 X) (o3 X) X) → σ'.1 ((295 + 29 * X) + 3) = fwsE tx en (D3 X) (o3 X) → chg (orR X) (orC X) σ σ' → post (.inl (some (mI (hdgE tx en (D3 X) (o3 X) hd (mnO (prE en) a))))) σ') :
    Tr Ls (N + 1) 158 0 [some (mP (some 2)), some (mI i), some (mI x)] [] σ post := by
  have hE24 := hE.1
  have hT30 := hT.1
  iterate 3 (refine tr_mv rfl (fun _ => rfl) ?_)
  refine tr_vc (q := 2) rfl ⟨by decide, by decide +kernel⟩ rfl rfl rfl (s_168 hE cE hi hx ?_)
  first | refine tr_ib rfl (fun g1 => ?_) (fun g1 => ?_) | refine tr_ibn rfl (fun g1 => ?_) (fun g1 => ?_)
  · obtain ⟨h1, h2, h3⟩ := g1
    obtain ⟨X, rfl⟩ : ∃ X : Nat, i = (X : Int) := ⟨i.toNat, by omega⟩
    obtain ⟨a, rfl⟩ : ∃ a : Nat, x = (a : Int) := ⟨x.toNat, by omega⟩
    have hX : X < 3 := by omega
    have ha : a < en.length := by omega
    obtain ⟨y1, y2, y3, y4⟩ := hX3 X hX
    iterate 2 (refine tr_mv rfl (fun _ => rfl) ?_)
    refine tr_vc (q := 2) rfl ⟨by decide, by decide +kernel⟩ rfl rfl rfl (s_188 hX hT hE cT cE y1 y2 y3 y4 (fun σ1 z1 z2 z3 z4 => ?_))
    iterate 4 (refine tr_mv rfl (fun _ => rfl) ?_)
    refine tr_vc (q := 2) rfl ⟨by decide, by decide +kernel⟩ rfl rfl rfl (s_194 (o := o3 X) hX hT hE (cT.of z4 hT30 (fun r h => by omega) (by omega)) (cE.of z4 hE24 (fun r h => by omega) (by omega) (fun q i h => by omega)) y1 (y2.of z4 (fun r h => by omega)) (hH.of z4 (fun i => by omega)) z3 ha (fun xs => ?_))
    refine tr_ri rfl rfl (K2 X a _ rfl rfl hX ha h3 z1 ?_ ?_ (z4.setR (by omega)))
    · rw [setR_ne _ _ (by omega)]; exact z2
    · rw [setR_ne _ _ (by omega)]; exact z3
  · exact tr_throw rfl (K1 g1)
/-- places at which two rows differ -/
def dif (xs ys : List Int) : Nat → Nat
  | 0 => 0
  | n + 1 => dif xs ys n + (if xs.getD n 0 = ys.getD n 0 then 0 else 1)
theorem dif_le (xs ys : List Int) : ∀ n, dif xs ys n ≤ n
  | 0 => Nat.le_refl _
  | n + 1 => by
    have := dif_le xs ys n
    unfold dif
    split <;> omega
theorem s_162 (hT : okTx tx) (hE : okEn tx en) (cT : cTx σ tx) (cE : cEn σ en) (hX3 : cX3 σ tx en D3 o3) (hi : in32 i) {bf : Nat → List Nat} (hbf : ∀ X, X < 3 → σ.1 ((295 + 29 * X) + 5) = ci (bf X) ∧ (bf X).length ≤ (ordE tx en (D3 X) (o3 X) X).length ∧ ∀ e ∈ bf X, e < 24)
    (K1 : ¬ (0 ≤ i ∧ i < 3) → post (.inr 0) σ)
    (K2 : ∀ (X : Nat) (σ' : Sg), i = (X : Int) → X < 3 → σ'.2 (295 + 29 * X) 3 = 1 → σ'.1 ((295 + 29 * X) + 1) = ci (ordE tx en (D3 X) (o3 X) X) → σ'.1 ((295 + 29 * X) + 3) = fwsE tx en (D3 X) (o3 X) → chg (orR X) (orC X) σ σ' → post (.inl (some (mI (dif (ci (ordE tx en (D3 X) (o3 X) X)) (ci (bf X)) (bf X).length : Int)))) σ') :
    Tr Ls (N + 1) 162 0 [some (mP (some 2)), some (mI i), none, none, none, none] [] σ post := by
  have hE24 := hE.1
  have hT30 := hT.1
  iterate 1 (refine tr_mv rfl (fun _ => rfl) ?_)
  refine tr_stat rfl rfl rfl (s_174 hi ?_)
  first | refine tr_ib rfl (fun g1 => ?_) (fun g1 => ?_) | refine tr_ibn rfl (fun g1 => ?_) (fun g1 => ?_)
  · obtain ⟨X, rfl⟩ : ∃ X : Nat, i = (X : Int) := ⟨i.toNat, by omega⟩
    have hX : X < 3 := by omega
    obtain ⟨y1, y2, y3, y4⟩ := hX3 X hX
    obtain ⟨b1, b2', b3⟩ := hbf X hX
    have hol := ordE_len (D := D3 X) (o := o3 X) hE X
    have hcl : (ci (ordE tx en (D3 X) (o3 X) X)).length = (ordE tx en (D3 X) (o3 X) X).length := by simp
    have hcb : (ci (bf X)).length = (bf X).length := by simp
    iterate 2 (refine tr_mv rfl (fun _ => rfl) ?_)
    refine tr_vc (q := 2) rfl ⟨by decide, by decide +kernel⟩ rfl rfl rfl (s_188 hX hT hE cT cE y1 y2 y3 y4 (fun σ1 z1 z2 z3 z4 => ?_))
    have bb : σ1.1 ((295 + 29 * X) + 5) = ci (bf X) := (z4.1 _ (by omega)).trans b1
    iterate 2 (refine tr_mv rfl (fun _ => rfl) ?_)
    refine tr_gr rfl ⟨by decide, by decide +kernel⟩ (by decide) rfl ?_
    iterate 1 (refine tr_mv rfl (fun _ => rfl) ?_)
    refine tr_aan (d := X) (w := (295 + 29 * X)) (nn := 3) rfl hX (by decide) rfl (by decide +kernel) (by decide) (F_3 X hX).2.1 ?_
    refine tr_vc (q := (295 + 29 * X)) rfl (X_O hX) rfl rfl rfl (s_84 hX ?_)
    have hmo : ∀ e ∈ ci (ordE tx en (D3 X) (o3 X) X), 0 ≤ e ∧ e < 24 := fun e he => by
      obtain ⟨e0, h0, rfl⟩ := List.mem_map.mp he
      have := ordE_sub hE X h0
      omega
    have hmb : ∀ e ∈ ci (bf X), 0 ≤ e ∧ e < 24 := fun e he => by
      obtain ⟨e0, h0, rfl⟩ := List.mem_map.mp he
      have := b3 e0 h0
      omega
    have k := K2 X σ1 rfl hX z1 z2 z3 z4
    generalize ordE tx en (D3 X) (o3 X) X = od at *
    have loop : ∀ (dd j : Nat), j + dd = (bf X).length → Tr Ls (N + 1) 162 40 [some (mP (some 2)), some (mI (X : Int)), some (mP (some ((295 + 29 * X) + 1))), some (mP (some ((295 + 29 * X) + 5))), some (mI (dif (ci od) (ci (bf X)) j : Int)), some (mI (j : Int))] [] σ1 post := by
      intro dd
      induction dd with
      | zero =>
        intro j ej
        iterate 2 (refine tr_mv rfl (fun _ => rfl) ?_)
        refine tr_size (X_r2 hX) rfl rfl ?_
        rw [bb, hcb]
        refine tr_cmp2 rfl (m32_of (by omega)) (m32_of (by omega)) (fun _ => ?_) (fun c9 => absurd (show ((bf X).length : Int) ≤ (j : Int) by omega) c9)
        iterate 1 (refine tr_mv rfl (fun _ => rfl) ?_)
        rw [show j = (bf X).length by omega]
        exact tr_ri rfl rfl k
      | succ dd ih =>
        intro j ej
        have k2 := ih (j + 1) (by omega)
        have hdl := dif_le (ci od) (ci (bf X)) j
        rw [show dif (ci od) (ci (bf X)) (j + 1) = dif (ci od) (ci (bf X)) j + (if (ci od).getD j 0 = (ci (bf X)).getD j 0 then 0 else 1) from rfl] at k2
        generalize dif (ci od) (ci (bf X)) j = acc at *
        iterate 2 (refine tr_mv rfl (fun _ => rfl) ?_)
        refine tr_size (X_r2 hX) rfl rfl ?_
        rw [bb, hcb]
        refine tr_cmp2 rfl (m32_of (by omega)) (m32_of (by omega)) (fun c9 => absurd (show ((bf X).length : Int) ≤ (j : Int) from c9) (by omega)) (fun _ => ?_)
        iterate 3 (refine tr_mv rfl (fun _ => rfl) ?_)
        refine tr_at2 (X_r0 hX) (m32_of (by omega)) rfl rfl ?_
        rw [z2, rget_nat (by omega)]
        iterate 2 (refine tr_mv rfl (fun _ => rfl) ?_)
        refine tr_at2 (X_r2 hX) (m32_of (by omega)) rfl rfl ?_
        rw [bb, rget_nat (by omega)]
        have q1 := hmo _ (getD_mem (l := ci od) (p := j) (by omega))
        have q2 := hmb _ (getD_mem (l := ci (bf X)) (p := j) (by omega))
        refine tr_cmp2 rfl (m32_of (by omega)) (m32_of (by omega)) (fun g3 => ?_) (fun g3 => ?_)
        · rw [if_pos g3] at k2
          iterate 5 (refine tr_mv rfl (fun _ => rfl) ?_)
          show Tr Ls (N + 1) 162 40 [some (mP (some 2)), some (mI (X : Int)), some (mP (some ((295 + 29 * X) + 1))), some (mP (some ((295 + 29 * X) + 5))), some (mI ((acc : Int) + 0)), some (mI ((j : Int) + 1))] [] σ1 post
          rw [show (j : Int) + 1 = ((j + 1 : Nat) : Int) by omega, Int.add_zero]
          exact k2
        · rw [if_neg g3] at k2
          iterate 6 (refine tr_mv rfl (fun _ => rfl) ?_)
          show Tr Ls (N + 1) 162 40 [some (mP (some 2)), some (mI (X : Int)), some (mP (some ((295 + 29 * X) + 1))), some (mP (some ((295 + 29 * X) + 5))), some (mI ((acc : Int) + 1)), some (mI ((j : Int) + 1))] [] σ1 post
          rw [show (j : Int) + 1 = ((j + 1 : Nat) : Int) by omega, show (acc : Int) + 1 = ((acc + 1 : Nat) : Int) by omega]
          exact k2
    iterate 5 (refine tr_mv rfl (fun _ => rfl) ?_)
    exact loop (bf X).length 0 (by omega)
  · exact tr_throw rfl (K1 g1)
end CCOLS3
