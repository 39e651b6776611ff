/-! The model's tailorings: weights, a rule told. -/
def wtM (T : Nat) (σ : Sg) (lvs : List Int) : Prop := mseg σ 493 (48 * T) (w1 0 lvs) ∧ mseg σ 494 (48 * T) (w2 1 lvs) ∧ mseg σ 495 (48 * T) (w3 1 lvs)
def tlM (T : Nat) (σ : Sg) (D : TD) : Prop := lsM T σ D.1 D.2.1 ∧ svM T σ D.2.2.1 D.2.2.2 ∧ wtM T σ D.2.1
def ruM (T : Nat) (σ : Sg) (hs as is : List Int) : Prop := σ.2 502 T = (hs.length : Int) ∧ mseg σ 501 (12 * T) hs ∧ mseg σ 499 (12 * T) as ∧ mseg σ 500 (12 * T) is
def tellD (D : TD) (how an it : Int) : TD := ((tellL D.1 D.2.1 how an it).1, (tellL D.1 D.2.1 how an it).2, rrem D.2.2.1 (rplace D.2.2.1 it) ++ (if how = 7 then [it] else []), rrem D.2.2.2 (rplace D.2.2.1 it) ++ (if how = 7 then [an] else []))
abbrev cTl (T q i : Nat) : Prop := cLs T q i ∨ cSv T q i ∨ cWt T q i ∨ cRu T q i
theorem bhF_le (lvs : List Int) (lv : Int) : ∀ (d p : Nat), p ≤ bhF lvs lv d p ∧ bhF lvs lv d p ≤ p + d
  | 0, p => ⟨Nat.le_refl _, Nat.le_refl _⟩
  | d + 1, p => by
    unfold bhF
    have := bhF_le lvs lv d (p + 1)
    split <;> omega
theorem ahF_le (lvs : List Int) (lv : Int) : ∀ (p : Nat), ahF lvs lv p ≤ p
  | 0 => Nat.le_refl _
  | p + 1 => by
    unfold ahF
    have := ahF_le lvs lv p
    split <;> omega
section MTELL
variable {Ls N k pc n n' nn b c t a q T kd w : Nat} {L L0 : mLs} {st r as : List mV} {h h' : mH} {σ σ' σ'' : Sg} {post : tP} {x y z x' y' i i' s v m how an it : Int} {xs ys its lvs sv sg hs is ans : List Int} {e : mE} {C : Nat → Nat → Prop} {D : TD}
theorem s_236 (hT : T < 4) (hx : in32 x) (hL : svM T σ sv sg) (hll : sv.length = sg.length) (hl : sv.length ≤ 12) (hin : ∀ y ∈ sv, in32 y) (hn : sv.Nodup) (K : ∀ σ', svM T σ' (rrem sv (rplace sv x)) (rrem sg (rplace sv x)) → only (cSv T) σ σ' → post (.inl none) σ') :
    Tr Ls N 236 0 [some (mP (some 480)), some (mI (T : Int)), some (mI x), none, none] [] σ post := by
  obtain ⟨h1, h2, h3⟩ := hL
  repeat (first | refine tr_mgr rfl (by decide) rfl ?_ | refine tr_mgi rfl (by decide) (by decide) rfl ?_ | refine tr_mv rfl (fun _ => rfl) ?_)
  refine tr_vc (q := 480) rfl isO_480 rfl rfl rfl (s_233 hT hx h1 hl h2 hin hn ?_)
  iterate 3 (refine tr_mv rfl (fun _ => rfl) ?_)
  rcases rplace_nat sv x with ⟨g1, g2⟩ | ⟨p, g1, g2, g3⟩
  · rw [g1] at K ⊢
    refine tr_cmp2 rfl (m32_of (x := -1) ⟨by decide, by decide⟩) (m32_of (x := -1) ⟨by decide, by decide⟩) (fun c1 => absurd rfl c1) (fun _ => ?_)
    refine tr_ret rfl (fun _ => rfl) (K σ ?_ only.rf)
    exact ⟨h1, h2, h3⟩
  · rw [g1] at K ⊢
    rw [rrem_nat g2, rrem_nat (by omega)] at K
    refine tr_cmp2 rfl (m32_of (by omega)) (m32_of (x := -1) ⟨by decide, by decide⟩) (fun _ => ?_) (fun c1 => absurd (show (p : Int) ≠ -1 by omega) c1)
    have loop : ∀ (d j : Nat) (σ' : Sg), p + j + d + 1 = sv.length → (∀ q i, σ'.2 q i = if (q = 496 ∨ q = 497) ∧ 12 * T + p ≤ i ∧ i < 12 * T + p + j then σ.2 q (i + 1) else if q = 498 ∧ i = T then (sv.length : Int) - 1 else σ.2 q i) → σ'.1 = σ.1 → Tr Ls N 236 31 [some (mP (some 480)), some (mI (T : Int)), some (mI x), some (mI (p : Int)), some (mI ((12 * T + p + j : Nat) : Int))] [] σ' post := by
      intro d
      induction d with
      | zero =>
        intro j σ' hd hk hr
        repeat (first | refine tr_mgr rfl (by decide) rfl ?_ | refine tr_mgi rfl (by decide) (by decide) rfl ?_ | refine tr_mv rfl (fun _ => rfl) ?_)
        refine tr_man (j := T) rfl (by omega) (by omega) rfl (fun _ => rfl) rfl rfl rfl ?_
        rw [hk 498 T, if_neg (by omega), if_pos ⟨rfl, rfl⟩]
        iterate 1 (refine tr_mv rfl (fun _ => rfl) ?_)
        refine tr_cmp2 rfl (m32_of (by omega)) (m32_of (by omega)) (fun _ => ?_) (fun c1 => absurd (show 12 * (T : Int) + ((sv.length : Int) - 1) ≤ ((12 * T + p + j : Nat) : Int) by omega) c1)
        refine tr_ret rfl (fun _ => rfl) (K σ' ⟨?_, ?_, ?_⟩ ⟨hr, fun q i hq => ?_⟩)
        · rw [hk, if_neg (by omega), if_pos ⟨rfl, rfl⟩, List.length_eraseIdx_of_lt g2]
          omega
        · refine h2.erase g2 (fun i => ?_)
          rw [hk]
          by_cases e : 12 * T + p ≤ i ∧ i < 12 * T + (sv.length - 1)
          · rw [if_pos e, if_pos ⟨Or.inl rfl, by omega⟩]
          · rw [if_neg e, if_neg (fun g => e (by omega)), if_neg (by omega)]
        · refine h3.erase (by omega) (fun i => ?_)
          rw [hk]
          by_cases e : 12 * T + p ≤ i ∧ i < 12 * T + (sg.length - 1)
          · rw [if_pos e, if_pos ⟨Or.inr rfl, by omega⟩]
          · rw [if_neg e, if_neg (fun g => e (by omega)), if_neg (by omega)]
        · rw [hk, if_neg (by omega), if_neg (by omega)]
      | succ d ih =>
        intro j σ' hd hk hr
        repeat (first | refine tr_mgr rfl (by decide) rfl ?_ | refine tr_mgi rfl (by decide) (by decide) rfl ?_ | refine tr_mv rfl (fun _ => rfl) ?_)
        refine tr_man (j := T) rfl (by omega) (by omega) rfl (fun _ => rfl) rfl rfl rfl ?_
        rw [hk 498 T, if_neg (by omega), if_pos ⟨rfl, rfl⟩]
        iterate 1 (refine tr_mv rfl (fun _ => rfl) ?_)
        refine tr_cmp2 rfl (m32_of (by omega)) (m32_of (by omega)) (fun c1 => absurd c1 (by show ¬ _ ≤ _; omega)) (fun _ => ?_)
        repeat (first | refine tr_mgr rfl (by decide) rfl ?_ | refine tr_mgi rfl (by decide) (by decide) rfl ?_ | refine tr_mv rfl (fun _ => rfl) ?_)
        refine tr_man (j := 12 * T + p + j + 1) rfl (by omega) (by omega) rfl (fun _ => rfl) rfl rfl rfl ?_
        refine tr_msn (j := 12 * T + p + j) rfl (by omega) (by omega) rfl (fun _ => rfl) rfl rfl rfl ?_
        repeat (first | refine tr_mgr rfl (by decide) rfl ?_ | refine tr_mgi rfl (by decide) (by decide) rfl ?_ | refine tr_mv rfl (fun _ => rfl) ?_)
        refine tr_man (j := 12 * T + p + j + 1) rfl (by omega) (by omega) rfl (fun _ => rfl) rfl rfl rfl ?_
        refine tr_msn (j := 12 * T + p + j) rfl (by omega) (by omega) rfl (fun _ => rfl) rfl rfl rfl ?_
        iterate 2 (refine tr_mv rfl (fun _ => rfl) ?_)
        show Tr Ls N 236 31 [some (mP (some 480)), some (mI (T : Int)), some (mI x), some (mI (p : Int)), some (mI (((12 * T + p + j : Nat) : Int) + 1))] [] _ post
        rw [show ((12 * T + p + j : Nat) : Int) + 1 = ((12 * T + p + (j + 1) : Nat) : Int) by omega]
        refine ih (j + 1) _ (by omega) (fun q i => ?_) hr
        rw [setF_get, setF_ne _ _ (by omega)]
        by_cases f1 : q = 497 ∧ i = 12 * T + p + j
        · rw [if_pos f1, if_pos ⟨Or.inr f1.1, by omega, by omega⟩, hk, if_neg (by omega), if_neg (by omega), f1.1, f1.2]
        · rw [if_neg f1, setF_get]
          by_cases f2 : q = 496 ∧ i = 12 * T + p + j
          · rw [if_pos f2, if_pos ⟨Or.inl f2.1, by omega, by omega⟩, hk, if_neg (by omega), if_neg (by omega), f2.1, f2.2]
          · rw [if_neg f2, hk]
            by_cases f3 : (q = 496 ∨ q = 497) ∧ 12 * T + p ≤ i ∧ i < 12 * T + p + (j + 1)
            · rw [if_pos f3, if_pos ⟨f3.1, by omega, by omega⟩]
            · rw [if_neg f3, if_neg (fun g => f3 ⟨g.1, by omega, by omega⟩)]
    repeat (first | refine tr_mgr rfl (by decide) rfl ?_ | refine tr_mgi rfl (by decide) (by decide) rfl ?_ | refine tr_mv rfl (fun _ => rfl) ?_)
    refine tr_man (j := T) rfl (by omega) (by omega) rfl (fun _ => rfl) rfl rfl rfl ?_
    rw [h1]
    iterate 2 (refine tr_mv rfl (fun _ => rfl) ?_)
    refine tr_msn (j := T) rfl (by omega) (by omega) rfl (fun _ => rfl) rfl rfl rfl ?_
    iterate 6 (refine tr_mv rfl (fun _ => rfl) ?_)
    exact loop (sv.length - 1 - p) 0 _ (by omega) (fun q i => by
      rw [setF_get]
      by_cases f : q = 498 ∧ i = T
      · rw [if_pos f, if_neg (by omega)]
      · rw [if_neg f, if_neg (by omega)]) rfl
theorem s_242 (hT : T < 4) (hx : in32 x) (hz : in32 z) (hL : lsM T σ its lvs) (hll : its.length = lvs.length) (hl : its.length < 48) (hin : ∀ y ∈ its, in32 y) (hin2 : ∀ y ∈ lvs, in32 y) (hn : its.Nodup) (hm : x ∈ its) (K : ∀ σ', lsM T σ' (its.insertIdx (bhF lvs z (its.length - ((rplace its x).toNat + 1)) ((rplace its x).toNat + 1)) y) (lvs.insertIdx (bhF lvs z (its.length - ((rplace its x).toNat + 1)) ((rplace its x).toNat + 1)) z) → only (cLs T) σ σ' → post (.inl none) σ') :
    Tr Ls N 242 0 [some (mP (some 480)), some (mI (T : Int)), some (mI x), some (mI y), some (mI z), none] [] σ post := by
  obtain ⟨h1, h2, h3⟩ := hL
  repeat (first | refine tr_mgr rfl (by decide) rfl ?_ | refine tr_mgi rfl (by decide) (by decide) rfl ?_ | refine tr_mv rfl (fun _ => rfl) ?_)
  refine tr_vc (q := 480) rfl isO_480 rfl rfl rfl (s_232 hT hx h1 (by omega) h2 hin hn ?_)
  rcases rplace_nat its x with ⟨g1, g2⟩ | ⟨p, g1, g2, g3⟩
  · exact absurd hm g2
  · rw [g1] at K ⊢
    rw [Int.toNat_natCast] at K
    have hend : ∀ j, j ≤ its.length → (∀ σ', lsM T σ' (its.insertIdx j y) (lvs.insertIdx j z) → only (cLs T) σ σ' → post (.inl none) σ') → Tr Ls N 242 44 [some (mP (some 480)), some (mI (T : Int)), some (mI x), some (mI y), some (mI z), some (mI (j : Int))] [] σ post := by
      intro j hj K'
      repeat (first | refine tr_mgr rfl (by decide) rfl ?_ | refine tr_mgi rfl (by decide) (by decide) rfl ?_ | refine tr_mv rfl (fun _ => rfl) ?_)
      refine tr_vc (q := 480) rfl isO_480 rfl rfl rfl (s_237 hT ⟨h1, h2, h3⟩ hll hl hj rfl (fun σ' k1 k2 => ?_))
      exact tr_ret rfl (fun _ => rfl) (K' σ' k1 k2)
    have loop : ∀ (d j : Nat), j + d = its.length → (∀ σ', lsM T σ' (its.insertIdx (bhF lvs z d j) y) (lvs.insertIdx (bhF lvs z d j) z) → only (cLs T) σ σ' → post (.inl none) σ') → Tr Ls N 242 10 [some (mP (some 480)), some (mI (T : Int)), some (mI x), some (mI y), some (mI z), some (mI (j : Int))] [] σ post := by
      intro d
      induction d with
      | zero =>
        intro j hj K'
        repeat (first | refine tr_mgr rfl (by decide) rfl ?_ | refine tr_mgi rfl (by decide) (by decide) rfl ?_ | refine tr_mv rfl (fun _ => rfl) ?_)
        refine tr_man (j := T) rfl (by omega) (by omega) rfl (fun _ => rfl) rfl rfl rfl ?_
        rw [h1]
        refine tr_cmp2 rfl (m32_of (by omega)) (m32_of (by omega)) (fun _ => ?_) (fun c1 => absurd (show (its.length : Int) ≤ (j : Int) by omega) c1)
        exact hend j (by omega) K'
      | succ d ih =>
        intro j hj K'
        have glp : lvs.getD j 0 ∈ lvs := by
          rw [List.getD_eq_getElem?_getD, List.getElem?_eq_getElem (by omega)]
          exact List.getElem_mem _
        have ilp := hin2 _ glp
        unfold bhF at K'
        repeat (first | refine tr_mgr rfl (by decide) rfl ?_ | refine tr_mgi rfl (by decide) (by decide) rfl ?_ | refine tr_mv rfl (fun _ => rfl) ?_)
        refine tr_man (j := T) rfl (by omega) (by omega) rfl (fun _ => rfl) rfl rfl rfl ?_
        rw [h1]
        refine tr_cmp2 rfl (m32_of (by omega)) (m32_of (by omega)) (fun c1 => absurd c1 (by show ¬ _ ≤ _; omega)) (fun _ => ?_)
        repeat (first | refine tr_mgr rfl (by decide) rfl ?_ | refine tr_mgi rfl (by decide) (by decide) rfl ?_ | refine tr_mv rfl (fun _ => rfl) ?_)
        refine tr_man (j := 48 * T + j) rfl (by omega) (by omega) rfl (fun _ => rfl) rfl rfl rfl ?_
        rw [h3.get (by omega)]
        iterate 1 (refine tr_mv rfl (fun _ => rfl) ?_)
        refine tr_cmp2 rfl (m32_of ilp) (m32_of hz) (fun c2 => ?_) (fun c2 => ?_)
        · have c2 : lvs.getD j 0 ≤ z := c2
          rw [if_neg (by omega)] at K'
          exact hend j (by omega) K'
        · have c2 : ¬ lvs.getD j 0 ≤ z := c2
          rw [if_pos (by omega)] at K'
          iterate 2 (refine tr_mv rfl (fun _ => rfl) ?_)
          show Tr Ls N 242 10 [some (mP (some 480)), some (mI (T : Int)), some (mI x), some (mI y), some (mI z), some (mI ((j : Int) + 1))] [] _ post
          rw [show (j : Int) + 1 = ((j + 1 : Nat) : Int) by omega]
          exact ih (j + 1) (by omega) K'
    iterate 3 (refine tr_mv rfl (fun _ => rfl) ?_)
    exact loop (its.length - (p + 1)) (p + 1) (by omega) K
theorem s_243 (hT : T < 4) (hx : in32 x) (hz : 1 ≤ z ∧ z ≤ 4) (hL : lsM T σ its lvs) (hll : its.length = lvs.length) (hl : its.length < 48) (hin : ∀ y ∈ its, in32 y) (hin2 : ∀ y ∈ lvs, in32 y) (hn : its.Nodup) (hm : x ∈ its) (h0 : lvs.head? = some 1) (K : ∀ σ', lsM T σ' (its.insertIdx (ahF lvs z (rplace its x).toNat) y) ((lvs.insertIdx (ahF lvs z (rplace its x).toNat) (lvs.getD (ahF lvs z (rplace its x).toNat) 0)).set (ahF lvs z (rplace its x).toNat + 1) z) → only (cLs T) σ σ' → post (.inl none) σ') :
    Tr Ls N 243 0 [some (mP (some 480)), some (mI (T : Int)), some (mI x), some (mI y), some (mI z), none] [] σ post := by
  obtain ⟨h1, h2, h3⟩ := hL
  repeat (first | refine tr_mgr rfl (by decide) rfl ?_ | refine tr_mgi rfl (by decide) (by decide) rfl ?_ | refine tr_mv rfl (fun _ => rfl) ?_)
  refine tr_vc (q := 480) rfl isO_480 rfl rfl rfl (s_232 hT hx h1 (by omega) h2 hin hn ?_)
  rcases rplace_nat its x with ⟨g1, g2⟩ | ⟨p, g1, g2, g3⟩
  · exact absurd hm g2
  · rw [g1] at K ⊢
    rw [Int.toNat_natCast] at K
    have loop : ∀ (j : Nat), j < its.length → (∀ σ', lsM T σ' (its.insertIdx (ahF lvs z j) y) ((lvs.insertIdx (ahF lvs z j) (lvs.getD (ahF lvs z j) 0)).set (ahF lvs z j + 1) z) → only (cLs T) σ σ' → post (.inl none) σ') → Tr Ls N 243 8 [some (mP (some 480)), some (mI (T : Int)), some (mI x), some (mI y), some (mI z), some (mI (j : Int))] [] σ post := by
      have hend : ∀ j, j < its.length → (∀ σ', lsM T σ' (its.insertIdx j y) ((lvs.insertIdx j (lvs.getD j 0)).set (j + 1) z) → only (cLs T) σ σ' → post (.inl none) σ') → Tr Ls N 243 31 [some (mP (some 480)), some (mI (T : Int)), some (mI x), some (mI y), some (mI z), some (mI (j : Int))] [] σ post := by
        intro j hj K'
        repeat (first | refine tr_mgr rfl (by decide) rfl ?_ | refine tr_mgi rfl (by decide) (by decide) rfl ?_ | refine tr_mv rfl (fun _ => rfl) ?_)
        refine tr_man (j := 48 * T + j) rfl (by omega) (by omega) rfl (fun _ => rfl) rfl rfl rfl ?_
        rw [h3.get (by omega)]
        refine tr_vc (q := 480) rfl isO_480 rfl rfl rfl (s_237 hT ⟨h1, h2, h3⟩ hll hl (by omega) rfl (fun σ' k1 k2 => ?_))
        repeat (first | refine tr_mgr rfl (by decide) rfl ?_ | refine tr_mgi rfl (by decide) (by decide) rfl ?_ | refine tr_mv rfl (fun _ => rfl) ?_)
        refine tr_msn (j := 48 * T + (j + 1)) rfl (by omega) (by omega) rfl (fun _ => rfl) rfl rfl rfl ?_
        refine tr_ret rfl (fun _ => rfl) (K' _ ⟨?_, ?_, k1.2.2.set⟩ (k2.setF (Or.inl ⟨Or.inr rfl, by omega, by omega⟩)))
        · rw [setF_ne _ _ (by omega)]
          exact k1.1
        · exact k1.2.1.keep (fun i _ _ => setF_ne _ _ (by omega))
      intro j
      induction j with
      | zero =>
        intro hj K'
        have e0 : lvs.getD 0 0 = 1 := by
          cases lvs with
          | nil => cases h0
          | cons l ls => cases h0; rfl
        repeat (first | refine tr_mgr rfl (by decide) rfl ?_ | refine tr_mgi rfl (by decide) (by decide) rfl ?_ | refine tr_mv rfl (fun _ => rfl) ?_)
        refine tr_man (j := 48 * T + 0) rfl (by omega) (by omega) rfl (fun _ => rfl) rfl rfl rfl ?_
        rw [h3.get (by omega), e0]
        iterate 1 (refine tr_mv rfl (fun _ => rfl) ?_)
        refine tr_cmp2 rfl (m32_of (x := 1) ⟨by decide, by decide⟩) (m32_of (by omega)) (fun _ => ?_) (fun c1 => absurd (show (1 : Int) ≤ z from hz.1) c1)
        exact hend 0 hj K'
      | succ j ih =>
        intro hj K'
        have glp : lvs.getD (j + 1) 0 ∈ lvs := by
          rw [List.getD_eq_getElem?_getD, List.getElem?_eq_getElem (by omega)]
          exact List.getElem_mem _
        have ilp := hin2 _ glp
        unfold ahF at K'
        repeat (first | refine tr_mgr rfl (by decide) rfl ?_ | refine tr_mgi rfl (by decide) (by decide) rfl ?_ | refine tr_mv rfl (fun _ => rfl) ?_)
        refine tr_man (j := 48 * T + (j + 1)) rfl (by omega) (by omega) rfl (fun _ => rfl) rfl rfl rfl ?_
        rw [h3.get (by omega)]
        iterate 1 (refine tr_mv rfl (fun _ => rfl) ?_)
        refine tr_cmp2 rfl (m32_of ilp) (m32_of (by omega)) (fun c2 => ?_) (fun c2 => ?_)
        · have c2 : ¬ z < lvs.getD (j + 1) 0 := Int.not_lt.mpr c2
          simp only [if_neg c2] at K'
          exact hend (j + 1) hj K'
        · have c2 : z < lvs.getD (j + 1) 0 := Int.not_le.mp c2
          simp only [if_pos c2] at K'
          iterate 2 (refine tr_mv rfl (fun _ => rfl) ?_)
          show Tr Ls N 243 8 [some (mP (some 480)), some (mI (T : Int)), some (mI x), some (mI y), some (mI z), some (mI (((j + 1 : Nat) : Int) + -1))] [] _ post
          rw [show ((j + 1 : Nat) : Int) + -1 = (j : Int) by omega]
          exact ih (by omega) K'
    iterate 1 (refine tr_mv rfl (fun _ => rfl) ?_)
    exact loop p g2 K
theorem s_234 (hT : T < 4) (hc : σ.2 492 T = (lvs.length : Int)) (h3 : mseg σ 491 (48 * T) lvs) (hl : lvs.length ≤ 48) (hin2 : ∀ y ∈ lvs, 1 ≤ y ∧ y ≤ 4) (h0 : lvs.head? = some 1) (K : ∀ σ', wtM T σ' lvs → only (cWt T) σ σ' → post (.inl none) σ') :
    Tr Ls N 234 0 [some (mP (some 480)), some (mI (T : Int)), none, none, none] [] σ post := by
  have loop : ∀ (rest done : List Int) (A1 A2 A3 : List Int) (f s th : Int) (v3 v4 : Option mV) (σ' : Sg), lvs = done ++ rest → A1 ++ w1 f rest = w1 0 lvs → A2 ++ w2 s rest = w2 1 lvs → A3 ++ w3 th rest = w3 1 lvs → A1.length = done.length → A2.length = done.length → A3.length = done.length → mseg σ' 493 (48 * T) A1 → mseg σ' 494 (48 * T) A2 → mseg σ' 495 (48 * T) A3 → only (cWt T) σ σ' →
      (done = [] → f = 0 ∧ s = 1 ∧ th = 1) → (done ≠ [] → σ'.2 493 (48 * T + done.length - 1) = f ∧ σ'.2 494 (48 * T + done.length - 1) = s ∧ σ'.2 495 (48 * T + done.length - 1) = th) →
      Tr Ls N 234 5 [some (mP (some 480)), some (mI (T : Int)), some (mI ((48 * T + done.length : Nat) : Int)), v3, v4] [] σ' post := by
    intro rest
    induction rest with
    | nil =>
      intro done A1 A2 A3 f s th v3 v4 σ' e a1 a2 a3 l1 l2 l3 m1 m2 m3 ho _ _
      rw [List.append_nil] at e
      have e9 := congrArg List.length e
      rw [show w1 f [] = [] from rfl, List.append_nil] at a1
      rw [show w2 s [] = [] from rfl, List.append_nil] at a2
      rw [show w3 th [] = [] from rfl, List.append_nil] at a3
      repeat (first | refine tr_mgr rfl (by decide) rfl ?_ | refine tr_mgi rfl (by decide) (by decide) rfl ?_ | refine tr_mv rfl (fun _ => rfl) ?_)
      refine tr_man (j := T) rfl (by omega) (by omega) rfl (fun _ => rfl) rfl rfl rfl ?_
      rw [ho.2 492 T (by omega), hc]
      iterate 1 (refine tr_mv rfl (fun _ => rfl) ?_)
      refine tr_cmp2 rfl (m32_of (by omega)) (m32_of (by omega)) (fun _ => ?_) (fun c1 => absurd (show 48 * (T : Int) + (lvs.length : Int) ≤ ((48 * T + done.length : Nat) : Int) by omega) c1)
      exact tr_ret rfl (fun _ => rfl) (K σ' ⟨by rw [← a1]; exact m1, by rw [← a2]; exact m2, by rw [← a3]; exact m3⟩ ho)
    | cons l rest ih =>
      intro done A1 A2 A3 f s th v3 v4 σ' e a1 a2 a3 l1 l2 l3 m1 m2 m3 ho b0 b1
      have hlen : lvs.length = done.length + 1 + rest.length := by rw [e]; simp; omega
      have hl1 := hin2 l (by rw [e]; simp)
      have hgl : σ'.2 491 (48 * T + done.length) = l := by
        rw [ho.2 491 _ (by omega), h3 done.length (by omega), e, List.getD_eq_getElem?_getD]
        simp
      have hg1 : done = [] → l = 1 := fun g => by
        rw [g, List.nil_append] at e
        rw [e] at h0
        simpa using h0
      rw [show w1 f (l :: rest) = (if l = 1 then f + 1 else f) :: w1 (if l = 1 then f + 1 else f) rest from rfl] at a1
      rw [show w2 s (l :: rest) = (if l = 1 then 1 else if l = 2 then s + 1 else s) :: w2 (if l = 1 then 1 else if l = 2 then s + 1 else s) rest from rfl] at a2
      rw [show w3 th (l :: rest) = (if l ≤ 2 then 1 else if l = 3 then th + 1 else th) :: w3 (if l ≤ 2 then 1 else if l = 3 then th + 1 else th) rest from rfl] at a3
      repeat (first | refine tr_mgr rfl (by decide) rfl ?_ | refine tr_mgi rfl (by decide) (by decide) rfl ?_ | refine tr_mv rfl (fun _ => rfl) ?_)
      refine tr_man (j := T) rfl (by omega) (by omega) rfl (fun _ => rfl) rfl rfl rfl ?_
      rw [ho.2 492 T (by omega), hc]
      iterate 1 (refine tr_mv rfl (fun _ => rfl) ?_)
      refine tr_cmp2 rfl (m32_of (by omega)) (m32_of (by omega)) (fun c1 => absurd c1 (by show ¬ _ ≤ _; omega)) (fun _ => ?_)
      -- the third weight
      have h155 : ∀ (v t3 : Int) (σ1 : Sg) (v3 v4 : Option mV), t3 = (if l ≤ 2 then 1 else if l = 3 then th + 1 else th) → mseg σ1 493 (48 * T) (A1 ++ [if l = 1 then f + 1 else f]) → mseg σ1 494 (48 * T) (A2 ++ [if l = 1 then 1 else if l = 2 then s + 1 else s]) → mseg σ1 495 (48 * T) A3 → only (cWt T) σ σ1 → Tr Ls N 234 155 [some (mP (some 480)), some (mI (T : Int)), some (mI ((48 * T + done.length : Nat) : Int)), v3, v4] [mI t3, mI ((48 * T + done.length : Nat) : Int), mP (some 495)] σ1 post := by
        intro v t3 σ1 v3 v4 e3 k1 k2 k3 ho1
        refine tr_msn (j := 48 * T + A3.length) rfl (by omega) (by omega) rfl (fun _ => rfl) rfl rfl rfl ?_
        iterate 2 (refine tr_mv rfl (fun _ => rfl) ?_)
        show Tr Ls N 234 5 [some (mP (some 480)), some (mI (T : Int)), some (mI (((48 * T + done.length : Nat) : Int) + 1)), v3, v4] [] _ post
        rw [show ((48 * T + done.length : Nat) : Int) + 1 = ((48 * T + (done ++ [l]).length : Nat) : Int) by simp; omega]
        refine ih (done ++ [l]) (A1 ++ [if l = 1 then f + 1 else f]) (A2 ++ [if l = 1 then 1 else if l = 2 then s + 1 else s]) (A3 ++ [t3]) (if l = 1 then f + 1 else f) (if l = 1 then 1 else if l = 2 then s + 1 else s) t3 v3 v4 _ (by rw [e]; simp) (by rw [← a1]; simp) (by rw [← a2]; simp) (by rw [← a3, e3]; simp) (by simp; omega) (by simp; omega) (by simp; omega) (k1.keep (fun i _ _ => setF_ne _ _ (by omega))) (k2.keep (fun i _ _ => setF_ne _ _ (by omega))) k3.push (ho1.setF ⟨Or.inr (Or.inr rfl), by omega, by omega⟩) (fun g => absurd g (by simp)) (fun _ => ?_)
        have hd : 48 * T + (done ++ [l]).length - 1 = 48 * T + done.length := by simp
        rw [hd, setF_ne _ _ (by omega), setF_ne _ _ (by omega), setF_get, if_pos (show 495 = 495 ∧ 48 * T + done.length = 48 * T + A3.length from ⟨rfl, by omega⟩)]
        refine ⟨?_, ?_, rfl⟩
        · rw [k1 done.length (by simp; omega), List.getD_eq_getElem?_getD, ← l1]
          simp
        · rw [k2 done.length (by simp; omega), List.getD_eq_getElem?_getD, ← l2]
          simp
      -- the second weight
      have h115 : ∀ (t2 v3 : Int) (σ1 : Sg), (v3 = 0 ∨ v3 = 1) → (v3 = 1 ↔ done = []) → t2 = (if l = 1 then 1 else if l = 2 then s + 1 else s) → mseg σ1 493 (48 * T) (A1 ++ [if l = 1 then f + 1 else f]) → mseg σ1 494 (48 * T) A2 → mseg σ1 495 (48 * T) A3 → (done ≠ [] → σ1.2 495 (48 * T + done.length - 1) = th) → only (cWt T) σ σ1 → Tr Ls N 234 115 [some (mP (some 480)), some (mI (T : Int)), some (mI ((48 * T + done.length : Nat) : Int)), some (mI v3), some (mI l)] [mI t2, mI ((48 * T + done.length : Nat) : Int), mP (some 494)] σ1 post := by
        intro t2 v3 σ1 hv hv2 e2 k1 k2 k3 k4 ho1
        refine tr_msn (j := 48 * T + A2.length) rfl (by omega) (by omega) rfl (fun _ => rfl) rfl rfl rfl ?_
        have q1 := k1.keep (σ' := setF σ1 494 (48 * T + A2.length) t2) (fun i _ _ => setF_ne _ _ (by omega))
        have q2 := k2.push (v := t2)
        have q3 := k3.keep (σ' := setF σ1 494 (48 * T + A2.length) t2) (fun i _ _ => setF_ne _ _ (by omega))
        have q4 : done ≠ [] → (setF σ1 494 (48 * T + A2.length) t2).2 495 (48 * T + done.length - 1) = th := fun g => by rw [setF_ne _ _ (by omega)]; exact k4 g
        have qo : only (cWt T) σ (setF σ1 494 (48 * T + A2.length) t2) := ho1.setF ⟨Or.inr (Or.inl rfl), by omega, by omega⟩
        generalize setF σ1 494 (48 * T + A2.length) t2 = σ2 at *
        rw [e2] at q2
        have h131 : l ≤ 2 ∨ done = [] → Tr Ls N 234 131 [some (mP (some 480)), some (mI (T : Int)), some (mI ((48 * T + done.length : Nat) : Int)), some (mI v3), some (mI l)] [mI ((48 * T + done.length : Nat) : Int), mP (some 495)] σ2 post := by
          intro g
          iterate 2 (refine tr_mv rfl (fun _ => rfl) ?_)
          refine h155 v3 1 σ2 _ _ ?_ q1 q2 q3 qo
          rw [if_pos (by rcases g with g | g; exact g; rw [hg1 g]; decide)]
        repeat (first | refine tr_mgr rfl (by decide) rfl ?_ | refine tr_mgi rfl (by decide) (by decide) rfl ?_ | refine tr_mv rfl (fun _ => rfl) ?_)
        refine tr_if2 rfl (m32_of (by omega)) (fun c1 => ?_) (fun c1 => ?_)
        · exact h131 (Or.inr (hv2.mp (by omega)))
        · iterate 2 (refine tr_mv rfl (fun _ => rfl) ?_)
          refine tr_cmp2 rfl (m32_of (by omega)) (m32_of (by omega)) (fun c2 => ?_) (fun c2 => ?_)
          · have hne : done ≠ [] := fun g => c1 (by have := hv2.mpr g; omega)
            have hdl : 0 < done.length := List.length_pos_iff.mpr hne
            repeat (first | refine tr_mgr rfl (by decide) rfl ?_ | refine tr_mgi rfl (by decide) (by decide) rfl ?_ | refine tr_mv rfl (fun _ => rfl) ?_)
            refine tr_man (j := 48 * T + done.length - 1) rfl (by omega) (by omega) rfl (fun _ => rfl) rfl rfl rfl ?_
            rw [q4 hne]
            iterate 2 (refine tr_mv rfl (fun _ => rfl) ?_)
            refine tr_cmp2 rfl (m32_of (by omega)) (m32_of (by omega)) (fun c3 => ?_) (fun c3 => ?_)
            · iterate 2 (refine tr_mv rfl (fun _ => rfl) ?_)
              exact h155 v3 _ σ2 _ _ (by rw [if_neg (by omega), if_neg (by omega)]; omega) q1 q2 q3 qo
            · iterate 3 (refine tr_mv rfl (fun _ => rfl) ?_)
              exact h155 v3 _ σ2 _ _ (by rw [if_neg (by omega), if_pos (by omega)]) q1 q2 q3 qo
          · exact h131 (Or.inl (by omega))
      -- the first weight
      have h75 : ∀ (t1 v3 : Int), (v3 = 0 ∨ v3 = 1) → (v3 = 1 ↔ done = []) → t1 = (if l = 1 then f + 1 else f) → Tr Ls N 234 75 [some (mP (some 480)), some (mI (T : Int)), some (mI ((48 * T + done.length : Nat) : Int)), some (mI v3), some (mI l)] [mI t1, mI ((48 * T + done.length : Nat) : Int), mP (some 493)] σ' post := by
        intro t1 v3 hv hv2 e1
        refine tr_msn (j := 48 * T + A1.length) rfl (by omega) (by omega) rfl (fun _ => rfl) rfl rfl rfl ?_
        have q1 := m1.push (v := t1)
        have q2 := m2.keep (σ' := setF σ' 493 (48 * T + A1.length) t1) (fun i _ _ => setF_ne _ _ (by omega))
        have q3 := m3.keep (σ' := setF σ' 493 (48 * T + A1.length) t1) (fun i _ _ => setF_ne _ _ (by omega))
        have q4 : done ≠ [] → (setF σ' 493 (48 * T + A1.length) t1).2 494 (48 * T + done.length - 1) = s := fun g => by rw [setF_ne _ _ (by omega)]; exact (b1 g).2.1
        have q5 : done ≠ [] → (setF σ' 493 (48 * T + A1.length) t1).2 495 (48 * T + done.length - 1) = th := fun g => by rw [setF_ne _ _ (by omega)]; exact (b1 g).2.2
        have qo : only (cWt T) σ (setF σ' 493 (48 * T + A1.length) t1) := ho.setF ⟨Or.inl rfl, by omega, by omega⟩
        generalize setF σ' 493 (48 * T + A1.length) t1 = σ2 at *
        rw [e1] at q1
        have h91 : l = 1 ∨ done = [] → Tr Ls N 234 91 [some (mP (some 480)), some (mI (T : Int)), some (mI ((48 * T + done.length : Nat) : Int)), some (mI v3), some (mI l)] [mI ((48 * T + done.length : Nat) : Int), mP (some 494)] σ2 post := by
          intro g
          iterate 2 (refine tr_mv rfl (fun _ => rfl) ?_)
          refine h115 1 v3 σ2 hv hv2 ?_ q1 q2 q3 q5 qo
          rw [if_pos (by rcases g with g | g; exact g; exact hg1 g)]
        repeat (first | refine tr_mgr rfl (by decide) rfl ?_ | refine tr_mgi rfl (by decide) (by decide) rfl ?_ | refine tr_mv rfl (fun _ => rfl) ?_)
        refine tr_if2 rfl (m32_of (by omega)) (fun c1 => ?_) (fun c1 => ?_)
        · exact h91 (Or.inr (hv2.mp (by omega)))
        · iterate 2 (refine tr_mv rfl (fun _ => rfl) ?_)
          refine tr_cmp2 rfl (m32_of (by omega)) (m32_of (by omega)) (fun c2 => ?_) (fun c2 => ?_)
          · have hne : done ≠ [] := fun g => c1 (by have := hv2.mpr g; omega)
            have hdl : 0 < done.length := List.length_pos_iff.mpr hne
            repeat (first | refine tr_mgr rfl (by decide) rfl ?_ | refine tr_mgi rfl (by decide) (by decide) rfl ?_ | refine tr_mv rfl (fun _ => rfl) ?_)
            refine tr_man (j := 48 * T + done.length - 1) rfl (by omega) (by omega) rfl (fun _ => rfl) rfl rfl rfl ?_
            rw [q4 hne]
            iterate 2 (refine tr_mv rfl (fun _ => rfl) ?_)
            refine tr_cmp2 rfl (m32_of (by omega)) (m32_of (by omega)) (fun c3 => ?_) (fun c3 => ?_)
            · iterate 2 (refine tr_mv rfl (fun _ => rfl) ?_)
              exact h115 _ v3 σ2 hv hv2 (by rw [if_neg (by omega), if_neg (by omega)]; omega) q1 q2 q3 q5 qo
            · iterate 3 (refine tr_mv rfl (fun _ => rfl) ?_)
              exact h115 _ v3 σ2 hv hv2 (by rw [if_neg (by omega), if_pos (by omega)]) q1 q2 q3 q5 qo
          · exact h91 (Or.inl (by omega))
      have h33 : ∀ (v3' : Int) (v3 v4 : Option mV), (v3' = 0 ∨ v3' = 1) → (v3' = 1 ↔ done = []) → Tr Ls N 234 33 [some (mP (some 480)), some (mI (T : Int)), some (mI ((48 * T + done.length : Nat) : Int)), v3, v4] [mI v3'] σ' post := by
        intro v3' v3 v4 hv hv2
        repeat (first | refine tr_mgr rfl (by decide) rfl ?_ | refine tr_mgi rfl (by decide) (by decide) rfl ?_ | refine tr_mv rfl (fun _ => rfl) ?_)
        refine tr_man (j := 48 * T + done.length) rfl (by omega) (by omega) rfl (fun _ => rfl) rfl rfl rfl ?_
        rw [hgl]
        repeat (first | refine tr_mgr rfl (by decide) rfl ?_ | refine tr_mgi rfl (by decide) (by decide) rfl ?_ | refine tr_mv rfl (fun _ => rfl) ?_)
        refine tr_if2 rfl (m32_of (by omega)) (fun c1 => ?_) (fun c1 => ?_)
        · repeat (first | refine tr_mgr rfl (by decide) rfl ?_ | refine tr_mgi rfl (by decide) (by decide) rfl ?_ | refine tr_mv rfl (fun _ => rfl) ?_)
          have hne : done ≠ [] := fun g => by have := hv2.mpr g; omega
          have hdl : 0 < done.length := List.length_pos_iff.mpr hne
          refine tr_man (j := 48 * T + done.length - 1) rfl (by omega) (by omega) rfl (fun _ => rfl) rfl rfl rfl ?_
          rw [(b1 hne).1]
          iterate 2 (refine tr_mv rfl (fun _ => rfl) ?_)
          refine tr_cmp2 rfl (m32_of (by omega)) (m32_of (by omega)) (fun c3 => ?_) (fun c3 => ?_)
          · iterate 2 (refine tr_mv rfl (fun _ => rfl) ?_)
            exact h75 _ v3' hv hv2 (by rw [if_neg (by omega)]; omega)
          · iterate 3 (refine tr_mv rfl (fun _ => rfl) ?_)
            exact h75 _ v3' hv hv2 (by rw [if_pos (by omega)])
        · iterate 2 (refine tr_mv rfl (fun _ => rfl) ?_)
          have g := hv2.mp (by omega)
          refine h75 _ v3' hv hv2 ?_
          rw [if_pos (hg1 g), (b0 g).1]
          rfl
      repeat (first | refine tr_mgr rfl (by decide) rfl ?_ | refine tr_mgi rfl (by decide) (by decide) rfl ?_ | refine tr_mv rfl (fun _ => rfl) ?_)
      refine tr_cmp2 rfl (m32_of (by omega)) (m32_of (by omega)) (fun c0 => ?_) (fun c0 => ?_)
      · iterate 1 (refine tr_mv rfl (fun _ => rfl) ?_)
        exact h33 0 _ _ (Or.inl rfl) ⟨fun g => absurd g (by decide), fun g => by rw [g] at c0; simp at c0⟩
      · iterate 2 (refine tr_mv rfl (fun _ => rfl) ?_)
        refine h33 1 _ _ (Or.inr rfl) ⟨fun _ => ?_, fun _ => rfl⟩
        exact List.length_eq_zero_iff.mp (by omega)
  iterate 4 (refine tr_mv rfl (fun _ => rfl) ?_)
  exact loop lvs [] [] [] [] 0 1 1 none none σ rfl rfl rfl rfl rfl rfl rfl (fun i hi => absurd hi (Nat.not_lt_zero _)) (fun i hi => absurd hi (Nat.not_lt_zero _)) (fun i hi => absurd hi (Nat.not_lt_zero _)) only.rf (fun _ => ⟨rfl, rfl, rfl⟩) (fun g => absurd rfl g)
end MTELL
