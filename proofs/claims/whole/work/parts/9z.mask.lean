/-! Indexes asked: the model's. -/
def mX3 (σ : Sg) (D3 : Nat → TD) (o3 : Nat → Nat → Int) : Prop := ∀ X, X < 3 → okTD (D3 X) ∧ tlM X σ (D3 X) ∧ opM X σ (o3 X)
def mBf (σ : Sg) (bf : Nat → List Nat) : Prop := ∀ X, X < 3 → σ.2 524 X = ((bf X).length : Int) ∧ mseg σ 523 (24 * X) (ci (bf X))
abbrev cCz (q i : Nat) : Prop := cCn q i ∨ (q = 480 ∧ i = 0)
theorem cCz_in {q i : Nat} (g : cCz q i) : q = 489 ∨ (504 ≤ q ∧ q ≤ 511) ∨ q = 522 ∨ q = 525 ∨ (q = 480 ∧ (i = 13 ∨ i = 32 ∨ i = 34 ∨ i = 36 ∨ i = 38 ∨ i = 40 ∨ i = 53 ∨ i = 57 ∨ i = 0)) := by
  rcases g with g | g
  · have := cCn_in g; omega
  · omega
theorem cOd_in {q i : Nat} (g : cOd q i) : q = 489 ∨ (504 ≤ q ∧ q ≤ 511) ∨ q = 522 ∨ (q = 480 ∧ (i = 13 ∨ i = 32 ∨ i = 34 ∨ i = 36 ∨ i = 38 ∨ i = 40 ∨ i = 53)) := by
  rcases g with g | g
  · have := cQ_nin g; omega
  · omega
section MASK
variable {Ls N k pc n n' nn b c t a q kd w d p X T : Nat} {L0 : mLs} {st r as : List mV} {h h' : mH} {σ σ' σ'' : Sg} {post : tP} {x y z x' y' i i' s v m u lv hh ww : Int} {xs ys ss L M A B : List Int} {e : mE} {C : Nat → Nat → Prop} {R : Nat → Prop} {tx : List (List Int)} {en : List EnT} {D : TD} {o hd : Nat → Int} {tg : Nat → List Int} {s1 d1 : Bool} {D3 : Nat → TD} {o3 : Nat → Nat → Int} {bf : Nat → List Nat}
theorem s_300 (hE : okEn tx en) (cE : mEn σ en) (hi : in32 i) (hx : in32 x) (K : post (.inl (some (mI (b2 (inXE en i x))))) σ) : Tr Ls N 300 0 [some (mP (some 480)), some (mI i), some (mI x)] [] σ post := by
  have hE24 := hE.1
  iterate 1 (refine tr_mv rfl (fun _ => rfl) ?_)
  refine tr_stat rfl rfl rfl (s_296 hi ?_)
  first | refine tr_ib rfl (fun g1 => ?_) (fun g1 => ?_) | refine tr_ibn rfl (fun g1 => ?_) (fun g1 => ?_)
  · iterate 1 (refine tr_mv rfl (fun _ => rfl) ?_)
    exact tr_rb0 rfl (fun g => g1 g.1) K
  · iterate 2 (refine tr_mv rfl (fun _ => rfl) ?_)
    refine tr_vc (q := 480) rfl isO_480 rfl rfl rfl (s_282 hx cE.1 (by omega) ?_)
    first | refine tr_ib rfl (fun g2 => ?_) (fun g2 => ?_) | refine tr_ibn rfl (fun g2 => ?_) (fun g2 => ?_)
    · iterate 1 (refine tr_mv rfl (fun _ => rfl) ?_)
      exact tr_rb0 rfl (fun g => g2 g.2.1) K
    · obtain ⟨X, rfl⟩ : ∃ X : Nat, i = (X : Int) := ⟨i.toNat, by omega⟩
      obtain ⟨a, rfl⟩ : ∃ a : Nat, x = (a : Int) := ⟨x.toNat, by omega⟩
      rw [b2_congr (show inXE en (X : Int) (a : Int) ↔ inE en X a = true from ⟨fun g => g.2.2, fun g => ⟨g1, g2, g⟩⟩)] at K
      iterate 3 (refine tr_mv rfl (fun _ => rfl) ?_)
      refine tr_vc (q := 480) rfl isO_480 rfl rfl rfl (s_291 (by omega) hE cE (by omega) ?_)
      first | refine tr_ib rfl (fun g3 => ?_) (fun g3 => ?_) | refine tr_ibn rfl (fun g3 => ?_) (fun g3 => ?_)
      · iterate 1 (refine tr_mv rfl (fun _ => rfl) ?_)
        exact tr_rb0 rfl g3 K
      · iterate 2 (refine tr_mv rfl (fun _ => rfl) ?_)
        exact tr_rb1 rfl g3 K
theorem mset0 (σ : Sg) (v : Int) : only (fun q i => q = 480 ∧ i = 0) σ (setF σ 480 0 v) := only.rf.setF ⟨rfl, rfl⟩
theorem s_326 (ch : σ.2 480 69 = hh) (hh2 : 4 ≤ hh ∧ hh ≤ 40) (cw : σ.2 480 68 = ww) (hw : 4 ≤ ww ∧ ww ≤ 40) (hX3 : mX3 σ D3 o3) (hT : okTx tx) (hE : okEn tx en) (cT : mTx σ tx) (cE : mEn σ en) (hok : ∀ e ∈ en, okLoc (enL e) (enM e)) (hH : mHd σ hd) (hg : mTg σ tx tg) (hg2 : okTg tx tg) (hi : in32 i) (hx : in32 x)
    (K1 : ¬ inXE en i x → post (.inl (some (mI 0))) (setF σ 480 0 1))
    (K2 : ∀ (X a : Nat) (σ' : Sg), i = (X : Int) → x = (a : Int) → X < 3 → a < en.length → inE en X a = true → σ'.2 480 0 = 0 → only cCz σ σ' → post (.inl (some (mI (colE tx en (D3 X) (o3 X) hd tg hh ww X a)))) σ') :
    Tr Ls N 326 0 [some (mP (some 480)), some (mI i), some (mI x)] [] σ post := by
  iterate 4 (refine tr_mv rfl (fun _ => rfl) ?_)
  refine tr_vc (q := 480) rfl isO_480 rfl rfl rfl (s_300 hE cE hi hx ?_)
  first | refine tr_ib rfl (fun g1 => ?_) (fun g1 => ?_) | refine tr_ibn rfl (fun g1 => ?_) (fun g1 => ?_)
  · repeat (refine tr_mv rfl (fun _ => rfl) ?_)
    refine tr_vc (q := 480) rfl isO_480 rfl rfl rfl (s_210 (by decide) ?_)
    rw [b2, if_neg (by decide)]
    repeat (refine tr_mv rfl (fun _ => rfl) ?_)
    exact tr_ri rfl rfl (K1 g1)
  · obtain ⟨h1, h2, h3⟩ := g1
    obtain ⟨X, rfl⟩ : ∃ X : Nat, i = (X : Int) := ⟨i.toNat, by omega⟩
    obtain ⟨a, rfl⟩ : ∃ a : Nat, x = (a : Int) := ⟨x.toNat, by omega⟩
    have hX : X < 3 := by omega
    have ha : a < en.length := by omega
    obtain ⟨y1, y2, y3⟩ := hX3 X hX
    repeat (refine tr_mv rfl (fun _ => rfl) ?_)
    refine tr_vc (q := 480) rfl isO_480 rfl rfl rfl (s_210 (by decide) ?_)
    rw [b2, if_pos rfl]
    have o0 := mset0 σ 0
    have f0 : (setF σ 480 0 0).2 480 0 = 0 := setF_same ..
    generalize setF σ 480 0 0 = S at *
    iterate 4 (refine tr_mv rfl (fun _ => rfl) ?_)
    refine tr_vc (q := 480) rfl isO_480 rfl rfl rfl (s_325 (tg := tg) (hd := hd) (D := D3 X) (o := o3 X) ((o0.2 _ _ (by omega)).trans ch) hh2 ((o0.2 _ _ (by omega)).trans cw) hw hX (y2.el o0 (fun q i _ _ => by omega)) y1 (y3.el o0 (fun i => by omega)) hT hE (cT.of o0 (fun q i h => by omega)) (cE.of o0 (fun q i h => by omega)) hok (hH.of o0 (fun i => by omega)) (hg.of o0 (fun q i h => by omega)) hg2 ((ordE_mem hE X).mpr ⟨ha, h3⟩) (fun σ2 o2 => ?_))
    iterate 1 (refine tr_mv rfl (fun _ => rfl) ?_)
    exact tr_ri rfl rfl (K2 X a σ2 rfl rfl hX ha h3 ((o2.2 _ _ (fun g => by have := cCn_in g; omega)).trans f0) ((o0.wk (fun q i h => Or.inr h)).tr (o2.wk (fun q i h => Or.inl h))))
theorem s_301 (hX3 : mX3 σ D3 o3) (hT : okTx tx) (hE : okEn tx en) (cT : mTx σ tx) (cE : mEn σ en) (hH : mHd σ hd) (hi : in32 i) (hx : in32 x)
    (K1 : ¬ inXE en i x → post (.inl (some (mI 0))) (setF σ 480 0 1))
    (K2 : ∀ (X a : Nat) (σ' : Sg), i = (X : Int) → x = (a : Int) → X < 3 → a < en.length → inE en X a = true → σ'.2 480 0 = 0 → only cCz σ σ' → post (.inl (some (mI (hdgE tx en (D3 X) (o3 X) hd (mnO (prE en) a))))) σ') :
    Tr Ls N 301 0 [some (mP (some 480)), some (mI i), some (mI x)] [] σ post := by
  iterate 4 (refine tr_mv rfl (fun _ => rfl) ?_)
  refine tr_vc (q := 480) rfl isO_480 rfl rfl rfl (s_300 hE cE hi hx ?_)
  first | refine tr_ib rfl (fun g1 => ?_) (fun g1 => ?_) | refine tr_ibn rfl (fun g1 => ?_) (fun g1 => ?_)
  · repeat (refine tr_mv rfl (fun _ => rfl) ?_)
    refine tr_vc (q := 480) rfl isO_480 rfl rfl rfl (s_210 (by decide) ?_)
    rw [b2, if_neg (by decide)]
    repeat (refine tr_mv rfl (fun _ => rfl) ?_)
    exact tr_ri rfl rfl (K1 g1)
  · obtain ⟨h1, h2, h3⟩ := g1
    obtain ⟨X, rfl⟩ : ∃ X : Nat, i = (X : Int) := ⟨i.toNat, by omega⟩
    obtain ⟨a, rfl⟩ : ∃ a : Nat, x = (a : Int) := ⟨x.toNat, by omega⟩
    have hX : X < 3 := by omega
    have ha : a < en.length := by omega
    obtain ⟨y1, y2, y3⟩ := hX3 X hX
    repeat (refine tr_mv rfl (fun _ => rfl) ?_)
    refine tr_vc (q := 480) rfl isO_480 rfl rfl rfl (s_210 (by decide) ?_)
    rw [b2, if_pos rfl]
    have o0 := mset0 σ 0
    have f0 : (setF σ 480 0 0).2 480 0 = 0 := setF_same ..
    generalize setF σ 480 0 0 = S at *
    have cE0 := cE.of o0 (fun q i h => by omega)
    iterate 5 (refine tr_mv rfl (fun _ => rfl) ?_)
    refine tr_vc (q := 480) rfl isO_480 rfl rfl rfl (s_292 hE cE0 ha ?_)
    refine tr_vc (q := 480) rfl isO_480 rfl rfl rfl (s_299 (hd := hd) (D := D3 X) (o := o3 X) hX (y2.el o0 (fun q i _ _ => by omega)) y1 (y3.el o0 (fun i => by omega)) hT hE (cT.of o0 (fun q i h => by omega)) cE0 (hH.of o0 (fun i => by omega)) (mnO_lt hE ha) (fun σ2 o2 => ?_))
    iterate 1 (refine tr_mv rfl (fun _ => rfl) ?_)
    exact tr_ri rfl rfl (K2 X a σ2 rfl rfl hX ha h3 ((o2.2 _ _ (fun g => by have := cQ_nin g; omega)).trans f0) ((o0.wk (fun q i h => Or.inr h)).tr (o2.wk (fun q i h => Or.inl (Or.inl (Or.inl h))))))
theorem s_297 (hX3 : mX3 σ D3 o3) (hT : okTx tx) (hE : okEn tx en) (cT : mTx σ tx) (cE : mEn σ en) (hi : in32 i) (hx : in32 x)
    (K1 : ∀ σ', ¬ (0 ≤ i ∧ i < 3) → σ'.2 480 0 = 1 → only cCz σ σ' → post (.inl (some (mI 0))) σ')
    (K2 : ∀ (X : Nat) (σ' : Sg), i = (X : Int) → X < 3 → ¬ (0 ≤ x ∧ x < ((ordE tx en (D3 X) (o3 X) X).length : Int)) → σ'.2 480 0 = 1 → only cCz σ σ' → post (.inl (some (mI 0))) σ')
    (K3 : ∀ (X j : Nat) (σ' : Sg), i = (X : Int) → X < 3 → x = (j : Int) → j < (ordE tx en (D3 X) (o3 X) X).length → σ'.2 480 0 = 0 → only cCz σ σ' → post (.inl (some (mI (((ordE tx en (D3 X) (o3 X) X).getD j 0 : Nat) : Int)))) σ') :
    Tr Ls N 297 0 [some (mP (some 480)), some (mI i), some (mI x), none] [] σ post := by
  iterate 1 (refine tr_mv rfl (fun _ => rfl) ?_)
  refine tr_stat rfl rfl rfl (s_296 hi ?_)
  by_cases g1 : 0 ≤ i ∧ i < 3
  · rw [b2_pos g1]
    obtain ⟨X, rfl⟩ : ∃ X : Nat, i = (X : Int) := ⟨i.toNat, by omega⟩
    have hX : X < 3 := by omega
    obtain ⟨y1, y2, y3⟩ := hX3 X hX
    have hol := ordE_len (D := D3 X) (o := o3 X) hE X
    iterate 5 (refine tr_mv rfl (fun _ => rfl) ?_)
    refine tr_vc (q := 480) rfl isO_480 rfl rfl rfl (s_294 hX y2 y1 y3 hT hE cT cE (fun σ2 l2 o2 => ?_))
    have q2 : only cCz σ σ2 := o2.wk (fun q i h => Or.inl (Or.inl h))
    repeat (first | refine tr_mgr rfl (by decide) rfl ?_ | refine tr_mgi rfl (by decide) (by decide) rfl ?_ | refine tr_mv rfl (fun _ => rfl) ?_)
    rw [l2.1]
    refine tr_stat rfl rfl rfl (s_211 hx (by decide) (by omega) ?_)
    first | refine tr_ib rfl (fun g2 => ?_) (fun g2 => ?_) | refine tr_ibn rfl (fun g2 => ?_) (fun g2 => ?_)
    · iterate 1 (refine tr_mv rfl (fun _ => rfl) ?_)
      refine tr_vc (q := 480) rfl isO_480 rfl rfl rfl (s_210 (by decide) ?_)
      rw [b2, if_neg (by decide)]
      repeat (refine tr_mv rfl (fun _ => rfl) ?_)
      exact tr_ri rfl rfl (K2 X _ rfl hX (fun g => g2 (by omega)) (setF_same ..) (q2.setF (Or.inr ⟨rfl, rfl⟩)))
    · obtain ⟨j, rfl⟩ : ∃ j : Nat, x = (j : Int) := ⟨x.toNat, by omega⟩
      iterate 2 (refine tr_mv rfl (fun _ => rfl) ?_)
      refine tr_vc (q := 480) rfl isO_480 rfl rfl rfl (s_210 (by decide) ?_)
      rw [b2, if_pos rfl]
      have hv : σ2.2 522 j = (((ordE tx en (D3 X) (o3 X) X).getD j 0 : Nat) : Int) := by
        rw [l2.2.get0 (by rw [List.length_map]; omega), List.getD_eq_getElem?_getD, List.getD_eq_getElem?_getD, List.getElem?_map]
        cases (ordE tx en (D3 X) (o3 X) X)[j]? <;> rfl
      repeat (first | refine tr_mgr rfl (by decide) rfl ?_ | refine tr_mgi rfl (by decide) (by decide) rfl ?_ | refine tr_mv rfl (fun _ => rfl) ?_)
      refine tr_man (j := j) rfl (by omega) (by omega) rfl (fun _ => rfl) rfl rfl rfl ?_
      rw [setF_ne _ _ (by omega), hv]
      iterate 1 (refine tr_mv rfl (fun _ => rfl) ?_)
      exact tr_ri rfl rfl (K3 X j _ rfl hX rfl (by omega) (setF_same ..) (q2.setF (Or.inr ⟨rfl, rfl⟩)))
  · rw [b2_neg g1]
    repeat (refine tr_mv rfl (fun _ => rfl) ?_)
    refine tr_vc (q := 480) rfl isO_480 rfl rfl rfl (s_210 (by decide) ?_)
    rw [b2, if_neg (by decide)]
    repeat (refine tr_mv rfl (fun _ => rfl) ?_)
    exact tr_ri rfl rfl (K1 _ g1 (setF_same ..) (only.rf.setF (Or.inr ⟨rfl, rfl⟩)))
theorem s_298 (hX3 : mX3 σ D3 o3) (hT : okTx tx) (hE : okEn tx en) (cT : mTx σ tx) (cE : mEn σ en) (hb : mBf σ bf) (hbl : ∀ X, X < 3 → (bf X).length ≤ (ordE tx en (D3 X) (o3 X) X).length ∧ ∀ e ∈ bf X, e < 24) (hi : in32 i)
    (K1 : ¬ (0 ≤ i ∧ i < 3) → post (.inl (some (mI 0))) (setF σ 480 0 1))
    (K2 : ∀ (X : Nat) (σ' : Sg), i = (X : Int) → X < 3 → σ'.2 480 0 = 0 → only cCz σ σ' → post (.inl (some (mI (dif (ci (ordE tx en (D3 X) (o3 X) X)) (ci (bf X)) (bf X).length : Int)))) σ') :
    Tr Ls N 298 0 [some (mP (some 480)), some (mI i), none, none] [] σ post := by
  iterate 2 (refine tr_mv rfl (fun _ => rfl) ?_)
  refine tr_stat rfl rfl rfl (s_296 hi ?_)
  first | refine tr_ib rfl (fun g1 => ?_) (fun g1 => ?_) | refine tr_ibn rfl (fun g1 => ?_) (fun g1 => ?_)
  · repeat (refine tr_mv rfl (fun _ => rfl) ?_)
    refine tr_vc (q := 480) rfl isO_480 rfl rfl rfl (s_210 (by decide) ?_)
    rw [b2, if_neg (by decide)]
    repeat (refine tr_mv rfl (fun _ => rfl) ?_)
    exact tr_ri rfl rfl (K1 g1)
  · obtain ⟨X, rfl⟩ : ∃ X : Nat, i = (X : Int) := ⟨i.toNat, by omega⟩
    have hX : X < 3 := by omega
    obtain ⟨y1, y2, y3⟩ := hX3 X hX
    obtain ⟨b1, b3⟩ := hbl X hX
    have hol := ordE_len (D := D3 X) (o := o3 X) hE X
    repeat (refine tr_mv rfl (fun _ => rfl) ?_)
    refine tr_vc (q := 480) rfl isO_480 rfl rfl rfl (s_210 (by decide) ?_)
    rw [b2, if_pos rfl]
    have o0 := mset0 σ 0
    have f0 : (setF σ 480 0 0).2 480 0 = 0 := setF_same ..
    generalize setF σ 480 0 0 = S at *
    iterate 3 (refine tr_mv rfl (fun _ => rfl) ?_)
    refine tr_vc (q := 480) rfl isO_480 rfl rfl rfl (s_294 hX (y2.el o0 (fun q i _ _ => by omega)) y1 (y3.el o0 (fun i => by omega)) hT hE (cT.of o0 (fun q i h => by omega)) (cE.of o0 (fun q i h => by omega)) (fun σ2 l2 o2 => ?_))
    have q2 : only cCz σ σ2 := (o0.wk (fun q i h => Or.inr h)).tr (o2.wk (fun q i h => Or.inl (Or.inl h)))
    have h524 : σ2.2 524 X = ((bf X).length : Int) := (q2.2 _ _ (fun g => by have := cCz_in g; omega)).trans (hb X hX).1
    have h523 : mseg σ2 523 (24 * X) (ci (bf X)) := (hb X hX).2.only q2 (fun i _ _ g => by have := cCz_in g; omega)
    have k := K2 X σ2 rfl hX ((o2.2 _ _ (fun g => by have := cOd_in g; omega)).trans f0) q2
    have hmo : ∀ e ∈ ci (ordE tx en (D3 X) (o3 X) X), 0 ≤ e ∧ e < 24 := fun e he => by
      obtain ⟨e0, h0, rfl⟩ := List.mem_map.mp he
      have := ordE_sub hE X h0
      have := hE.1
      omega
    have hmb : ∀ e ∈ ci (bf X), 0 ≤ e ∧ e < 24 := fun e he => by
      obtain ⟨e0, h0, rfl⟩ := List.mem_map.mp he
      have := b3 e0 h0
      omega
    have hcl : (ci (ordE tx en (D3 X) (o3 X) X)).length = (ordE tx en (D3 X) (o3 X) X).length := by simp
    have hcb : (ci (bf X)).length = (bf X).length := by simp
    generalize ordE tx en (D3 X) (o3 X) X = od at *
    have loop : ∀ (dd j : Nat), j + dd = (bf X).length → Tr Ls N 298 30 [some (mP (some 480)), some (mI (X : Int)), some (mI (dif (ci od) (ci (bf X)) j : Int)), some (mI (j : Int))] [] σ2 post := by
      intro dd
      induction dd with
      | zero =>
        intro j ej
        repeat (first | refine tr_mgr rfl (by decide) rfl ?_ | refine tr_mgi rfl (by decide) (by decide) rfl ?_ | refine tr_mv rfl (fun _ => rfl) ?_)
        refine tr_man (j := X) rfl (by omega) (by omega) rfl (fun _ => rfl) rfl rfl rfl ?_
        rw [h524]
        refine tr_cmp2 rfl (m32_of (by omega)) (m32_of (by omega)) (fun _ => ?_) (fun c9 => absurd (show ((bf X).length : Int) ≤ (j : Int) by omega) c9)
        iterate 1 (refine tr_mv rfl (fun _ => rfl) ?_)
        rw [show j = (bf X).length by omega]
        exact tr_ri rfl rfl k
      | succ dd ih =>
        intro j ej
        have k2 := ih (j + 1) (by omega)
        have hdl := dif_le (ci od) (ci (bf X)) j
        rw [show dif (ci od) (ci (bf X)) (j + 1) = dif (ci od) (ci (bf X)) j + (if (ci od).getD j 0 = (ci (bf X)).getD j 0 then 0 else 1) from rfl] at k2
        generalize dif (ci od) (ci (bf X)) j = acc at *
        repeat (first | refine tr_mgr rfl (by decide) rfl ?_ | refine tr_mgi rfl (by decide) (by decide) rfl ?_ | refine tr_mv rfl (fun _ => rfl) ?_)
        refine tr_man (j := X) rfl (by omega) (by omega) rfl (fun _ => rfl) rfl rfl rfl ?_
        rw [h524]
        refine tr_cmp2 rfl (m32_of (by omega)) (m32_of (by omega)) (fun c9 => absurd (show ((bf X).length : Int) ≤ (j : Int) from c9) (by omega)) (fun _ => ?_)
        repeat (first | refine tr_mgr rfl (by decide) rfl ?_ | refine tr_mgi rfl (by decide) (by decide) rfl ?_ | refine tr_mv rfl (fun _ => rfl) ?_)
        refine tr_man (j := 24 * X + j) rfl (by omega) (by omega) rfl (fun _ => rfl) rfl rfl rfl ?_
        rw [h523.get (by omega)]
        repeat (first | refine tr_mgr rfl (by decide) rfl ?_ | refine tr_mgi rfl (by decide) (by decide) rfl ?_ | refine tr_mv rfl (fun _ => rfl) ?_)
        refine tr_man (j := j) rfl (by omega) (by omega) rfl (fun _ => rfl) rfl rfl rfl ?_
        rw [l2.2.get0 (by omega)]
        have q1 := hmo _ (getD_mem (l := ci od) (p := j) (by omega))
        have q3 := hmb _ (getD_mem (l := ci (bf X)) (p := j) (by omega))
        refine tr_cmp2 rfl (m32_of (by omega)) (m32_of (by omega)) (fun g3 => ?_) (fun g3 => ?_)
        · rw [if_pos (show (ci od).getD j 0 = (ci (bf X)).getD j 0 from Eq.symm g3)] at k2
          iterate 5 (refine tr_mv rfl (fun _ => rfl) ?_)
          show Tr Ls N 298 30 [some (mP (some 480)), some (mI (X : Int)), some (mI ((acc : Int) + 0)), some (mI ((j : Int) + 1))] [] σ2 post
          rw [show (j : Int) + 1 = ((j + 1 : Nat) : Int) by omega, Int.add_zero]
          exact k2
        · rw [if_neg (fun g : (ci od).getD j 0 = (ci (bf X)).getD j 0 => g3 (Eq.symm g))] at k2
          iterate 6 (refine tr_mv rfl (fun _ => rfl) ?_)
          show Tr Ls N 298 30 [some (mP (some 480)), some (mI (X : Int)), some (mI ((acc : Int) + 1)), some (mI ((j : Int) + 1))] [] σ2 post
          rw [show (j : Int) + 1 = ((j + 1 : Nat) : Int) by omega, show (acc : Int) + 1 = ((acc + 1 : Nat) : Int) by omega]
          exact k2
    iterate 4 (refine tr_mv rfl (fun _ => rfl) ?_)
    exact loop (bf X).length 0 (by omega)
abbrev cRm (X q i : Nat) : Prop := cOd q i ∨ (q = 523 ∧ 24 * X ≤ i ∧ i < 24 * X + 24) ∨ (q = 524 ∧ i = X)
theorem s_295 (hX : X < 3) (hM : tlM X σ D) (hD : okTD D) (hO : opM X σ o) (hT : okTx tx) (hE : okEn tx en) (cT : mTx σ tx) (cE : mEn σ en)
    (K : ∀ σ', σ'.2 524 X = ((ordE tx en D o X).length : Int) → mseg σ' 523 (24 * X) (ci (ordE tx en D o X)) → only (cRm X) σ σ' → post (.inl none) σ') :
    Tr Ls N 295 0 [some (mP (some 480)), some (mI (X : Int)), none] [] σ post := by
  have hol := ordE_len (D := D) (o := o) hE X
  iterate 2 (refine tr_mv rfl (fun _ => rfl) ?_)
  refine tr_vc (q := 480) rfl isO_480 rfl rfl rfl (s_294 hX hM hD hO hT hE cT cE (fun σ2 l2 o2 => ?_))
  have hcl : (ci (ordE tx en D o X)).length = (ordE tx en D o X).length := by simp
  generalize ordE tx en D o X = od at *
  have loop : ∀ (dd j : Nat) (σ' : Sg), j + dd = od.length → (∀ i, i < j → σ'.2 523 (24 * X + i) = (ci od).getD i 0) → only (fun q i => q = 523 ∧ 24 * X ≤ i ∧ i < 24 * X + 24) σ2 σ' → Tr Ls N 295 7 [some (mP (some 480)), some (mI (X : Int)), some (mI (j : Int))] [] σ' post := by
    intro dd
    induction dd with
    | zero =>
      intro j σ' ej hk ho
      repeat (first | refine tr_mgr rfl (by decide) rfl ?_ | refine tr_mgi rfl (by decide) (by decide) rfl ?_ | refine tr_mv rfl (fun _ => rfl) ?_)
      rw [ho.2 _ _ (by omega), l2.1]
      refine tr_cmp2 rfl (m32_of (by omega)) (m32_of (by omega)) (fun _ => ?_) (fun c9 => absurd (show (od.length : Int) ≤ (j : Int) by omega) c9)
      repeat (first | refine tr_mgr rfl (by decide) rfl ?_ | refine tr_mgi rfl (by decide) (by decide) rfl ?_ | refine tr_mv rfl (fun _ => rfl) ?_)
      rw [ho.2 _ _ (by omega), l2.1]
      refine tr_msn (j := X) rfl (by omega) (by omega) rfl (fun _ => rfl) rfl rfl rfl ?_
      refine tr_ret rfl (fun _ => rfl) (K _ (setF_same ..) (fun i hi => ?_) (((o2.wk (fun q i h => Or.inl h)).tr (ho.wk (fun q i h => Or.inr (Or.inl h)))).setF (Or.inr (Or.inr ⟨rfl, rfl⟩))))
      rw [setF_ne _ _ (by omega)]
      exact hk i (by omega)
    | succ dd ih =>
      intro j σ' ej hk ho
      have hv : σ'.2 522 j = (ci od).getD j 0 := (ho.2 _ _ (by omega)).trans (l2.2.get0 (by omega))
      repeat (first | refine tr_mgr rfl (by decide) rfl ?_ | refine tr_mgi rfl (by decide) (by decide) rfl ?_ | refine tr_mv rfl (fun _ => rfl) ?_)
      rw [ho.2 _ _ (by omega), l2.1]
      refine tr_cmp2 rfl (m32_of (by omega)) (m32_of (by omega)) (fun c9 => absurd (show (od.length : Int) ≤ (j : Int) from c9) (by omega)) (fun _ => ?_)
      repeat (first | refine tr_mgr rfl (by decide) rfl ?_ | refine tr_mgi rfl (by decide) (by decide) rfl ?_ | refine tr_mv rfl (fun _ => rfl) ?_)
      refine tr_man (j := j) rfl (by omega) (by omega) rfl (fun _ => rfl) rfl rfl rfl ?_
      rw [hv]
      refine tr_msn (j := 24 * X + j) rfl (by omega) (by omega) rfl (fun _ => rfl) rfl rfl rfl ?_
      iterate 2 (refine tr_mv rfl (fun _ => rfl) ?_)
      show Tr Ls N 295 7 [some (mP (some 480)), some (mI (X : Int)), some (mI ((j : Int) + 1))] [] _ post
      rw [show (j : Int) + 1 = ((j + 1 : Nat) : Int) by omega]
      refine ih (j + 1) _ (by omega) (fun i hi => ?_) (ho.setF ⟨rfl, by omega, by omega⟩)
      rw [setF_get]
      by_cases g : i = j
      · rw [if_pos ⟨rfl, by omega⟩, g]
      · rw [if_neg (by omega)]
        exact hk i (by omega)
  iterate 2 (refine tr_mv rfl (fun _ => rfl) ?_)
  exact loop od.length 0 σ2 (by omega) (fun i hi => absurd hi (Nat.not_lt_zero _)) only.rf
end MASK
