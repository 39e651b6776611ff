/-! The model's tailorings: lists that change. -/
section MLIST
variable {Ls N k pc n n' nn b c t a q T kd w : Nat} {L L0 : mLs} {st r as : List mV} {h h' : mH} {σ σ' σ'' : Sg} {post : tP} {x y z x' y' i i' s v m : Int} {xs ys : List Int} {e : mE} {C : Nat → Nat → Prop}
theorem tr_man {z j : Nat} (hz : z + 480 = q) (hi : i = (j : Int)) (hj : j < nn) (he : mPg.1 k pc = some e) (hs : ∀ h, mstep mPg.2.2.2.1 mPg.2.2.2.2 e pc L (mI i :: mP (some q) :: r) h = mrd h kd q i fun y => mnx (pc + n) L (mI y :: r) h) (hq : mSh2[z]? = some (kd, nn)) (hz0 : Nat.blt 0 z = true) (hn : Nat.ble nn 100000 = true) (K : Tr Ls N k (pc + n) L (mI (σ.2 q j) :: r) σ post) : Tr Ls N k pc L (mI i :: mP (some q) :: r) σ post := by
  have hn := Nat.le_of_ble_eq_true hn
  refine tr_ma (i' := (j : Int)) hz (by rw [hi]; exact m32_of (by omega)) (by omega) he hs hq hz0 ?_
  rw [Int.toNat_natCast]
  exact K
theorem tr_msn {z j : Nat} (hz : z + 480 = q) (hi : i = (j : Int)) (hj : j < nn) (he : mPg.1 k pc = some e) (hs : ∀ h, mstep mPg.2.2.2.1 mPg.2.2.2.2 e pc L (mI x :: mI i :: mP (some q) :: r) h = mwr h kd q i x fun h' => mnx (pc + n) L r h') (hq : mSh2[z]? = some (kd, nn)) (hz0 : Nat.blt 0 z = true) (hn : Nat.ble nn 100000 = true) (K : Tr Ls N k (pc + n) L r (setF σ q j x) post) : Tr Ls N k pc L (mI x :: mI i :: mP (some q) :: r) σ post := by
  have hn := Nat.le_of_ble_eq_true hn
  refine tr_ms (i' := (j : Int)) hz (by rw [hi]; exact m32_of (by omega)) (by omega) he hs hq hz0 ?_
  rw [Int.toNat_natCast]
  exact K
theorem setF_get (σ : Sg) (q i : Nat) (x : Int) (p j : Nat) : (setF σ q i x).2 p j = if p = q ∧ j = i then x else σ.2 p j := by
  show mup σ.2 q i x p j = _
  unfold mup
  by_cases h1 : p = q
  · by_cases h2 : j = i
    · rw [if_pos h1, if_pos h2, if_pos ⟨h1, h2⟩]
    · rw [if_pos h1, if_neg h2, if_neg (fun g => h2 g.2)]
  · rw [if_neg h1, if_neg (fun g => h1 g.1)]
theorem setF_same (σ : Sg) (q i : Nat) (x : Int) : (setF σ q i x).2 q i = x := by rw [setF_get, if_pos ⟨rfl, rfl⟩]
theorem setF_ne {p j : Nat} (σ : Sg) (x : Int) (h : ¬ (p = q ∧ j = a)) : (setF σ q a x).2 p j = σ.2 p j := by rw [setF_get, if_neg h]
theorem mseg.keep {off : Nat} (h : mseg σ q off xs) (hk : ∀ i, off ≤ i → i < off + xs.length → σ'.2 q i = σ.2 q i) : mseg σ' q off xs := fun i hi => by
  rw [hk (off + i) (by omega) (by omega)]
  exact h i hi
theorem mseg.only {off : Nat} (h : mseg σ q off xs) (ho : only C σ σ') (hk : ∀ i, off ≤ i → i < off + xs.length → ¬ C q i) : mseg σ' q off xs := h.keep (fun i h1 h2 => ho.2 q i (hk i h1 h2))
theorem mseg.get {off p : Nat} (h : mseg σ q off xs) (hp : p < xs.length) : σ.2 q (off + p) = xs.getD p 0 := h p hp
theorem mseg.set {off p : Nat} (h : mseg σ q off xs) : mseg (setF σ q (off + p) v) q off (xs.set p v) := fun i hi => by
  rw [List.length_set] at hi
  rw [setF_get, List.getD_eq_getElem?_getD, List.getElem?_set]
  by_cases e : i = p
  · rw [if_pos ⟨rfl, by omega⟩, if_pos e.symm, if_pos (by omega)]
    rfl
  · rw [if_neg (fun g => e (by omega)), if_neg (Ne.symm e), h i hi, List.getD_eq_getElem?_getD]
theorem mseg.erase {off p : Nat} (h : mseg σ q off xs) (hp : p < xs.length) (hk : ∀ i, σ'.2 q i = if off + p ≤ i ∧ i < off + (xs.length - 1) then σ.2 q (i + 1) else σ.2 q i) : mseg σ' q off (xs.eraseIdx p) := fun i hi => by
  rw [List.length_eraseIdx_of_lt hp] at hi
  rw [hk, List.getD_eq_getElem?_getD, List.getElem?_eraseIdx]
  by_cases e : i < p
  · rw [if_neg (by omega), if_pos e, h i (by omega), List.getD_eq_getElem?_getD]
  · rw [if_pos (by omega), if_neg e, show off + i + 1 = off + (i + 1) by omega, h (i + 1) (by omega), List.getD_eq_getElem?_getD]
theorem mseg.ins {off p : Nat} (h : mseg σ q off xs) (hp : p ≤ xs.length) (hk : ∀ i, σ'.2 q i = if i = off + p then v else if off + p < i ∧ i ≤ off + xs.length then σ.2 q (i - 1) else σ.2 q i) : mseg σ' q off (xs.insertIdx p v) := fun i hi => by
  rw [List.length_insertIdx_of_le_length hp] at hi
  rw [hk, List.getD_eq_getElem?_getD, List.getElem?_insertIdx]
  by_cases e : i < p
  · rw [if_neg (by omega), if_neg (by omega), if_pos e, h i (by omega), List.getD_eq_getElem?_getD]
  · rw [if_neg e]
    by_cases e2 : i = p
    · rw [if_pos (by omega), if_pos e2, if_pos (show i ≤ xs.length by omega)]
      rfl
    · rw [if_neg (by omega), if_pos (by omega), if_neg e2, show off + i - 1 = off + (i - 1) by omega, h (i - 1) (by omega), List.getD_eq_getElem?_getD]
theorem mseg.push {off : Nat} (h : mseg σ q off xs) : mseg (setF σ q (off + xs.length) v) q off (xs ++ [v]) := fun i hi => by
  rw [List.length_append, List.length_singleton] at hi
  rw [setF_get, List.getD_eq_getElem?_getD]
  by_cases e : i = xs.length
  · rw [if_pos ⟨rfl, by omega⟩, e]
    simp
  · rw [if_neg (fun g => e (by omega)), h i (by omega), List.getElem?_append_left (by omega), List.getD_eq_getElem?_getD]
/-- the places of the model's lists -/
abbrev cLs (T q i : Nat) : Prop := ((q = 490 ∨ q = 491) ∧ 48 * T ≤ i ∧ i < 48 * T + 48) ∨ (q = 492 ∧ i = T)
abbrev cSv (T q i : Nat) : Prop := ((q = 496 ∨ q = 497) ∧ 12 * T ≤ i ∧ i < 12 * T + 12) ∨ (q = 498 ∧ i = T)
abbrev cWt (T q i : Nat) : Prop := (q = 493 ∨ q = 494 ∨ q = 495) ∧ 48 * T ≤ i ∧ i < 48 * T + 48
abbrev cRu (T q i : Nat) : Prop := ((q = 499 ∨ q = 500 ∨ q = 501) ∧ 12 * T ≤ i ∧ i < 12 * T + 12) ∨ (q = 502 ∧ i = T)
def lsM (T : Nat) (σ : Sg) (its lvs : List Int) : Prop := σ.2 492 T = (its.length : Int) ∧ mseg σ 490 (48 * T) its ∧ mseg σ 491 (48 * T) lvs
def svM (T : Nat) (σ : Sg) (sv sg : List Int) : Prop := σ.2 498 T = (sv.length : Int) ∧ mseg σ 496 (12 * T) sv ∧ mseg σ 497 (12 * T) sg
theorem s_237 {its lvs : List Int} {p : Nat} (hT : T < 4) (hL : lsM T σ its lvs) (hll : its.length = lvs.length) (hl : its.length < 48) (hp : p ≤ its.length) (hx : x = (p : Int)) (K : ∀ σ', lsM T σ' (its.insertIdx p y) (lvs.insertIdx p z) → only (cLs T) σ σ' → post (.inl none) σ') :
    Tr Ls N 237 0 [some (mP (some 480)), some (mI (T : Int)), some (mI x), some (mI y), some (mI z), none] [] σ post := by
  subst hx
  obtain ⟨h1, h2, h3⟩ := hL
  have loop : ∀ (d : Nat) (σ' : Sg), p + d ≤ its.length → (∀ q i, σ'.2 q i = if (q = 490 ∨ q = 491) ∧ 48 * T + p + d < i ∧ i ≤ 48 * T + its.length then σ.2 q (i - 1) else σ.2 q i) → σ'.1 = σ.1 → Tr Ls N 237 13 [some (mP (some 480)), some (mI (T : Int)), some (mI (p : Int)), some (mI y), some (mI z), some (mI ((48 * T + p + d : Nat) : Int))] [] σ' post := by
    intro d
    induction d with
    | zero =>
      intro σ' hd hk hr
      iterate 6 (refine tr_mv rfl (fun _ => rfl) ?_)
      refine tr_cmp2 rfl (m32_of (by omega)) (m32_of (by omega)) (fun _ => ?_) (fun c1 => absurd (show ((48 * T + p + 0 : Nat) : Int) ≤ 48 * (T : Int) + (p : Int) by omega) c1)
      repeat (first | refine tr_mgr rfl (by decide) rfl ?_ | refine tr_mgi rfl (by decide) (by decide) rfl ?_ | refine tr_mv rfl (fun _ => rfl) ?_)
      refine tr_msn (j := 48 * T + p) rfl (by omega) (by omega) rfl (fun _ => rfl) rfl rfl rfl ?_
      repeat (first | refine tr_mgr rfl (by decide) rfl ?_ | refine tr_mgi rfl (by decide) (by decide) rfl ?_ | refine tr_mv rfl (fun _ => rfl) ?_)
      refine tr_msn (j := 48 * T + p) rfl (by omega) (by omega) rfl (fun _ => rfl) rfl rfl rfl ?_
      repeat (first | refine tr_mgr rfl (by decide) rfl ?_ | refine tr_mgi rfl (by decide) (by decide) rfl ?_ | refine tr_mv rfl (fun _ => rfl) ?_)
      refine tr_man (j := T) rfl (by omega) (by omega) rfl (fun _ => rfl) rfl rfl rfl ?_
      repeat (first | refine tr_mgr rfl (by decide) rfl ?_ | refine tr_mgi rfl (by decide) (by decide) rfl ?_ | refine tr_mv rfl (fun _ => rfl) ?_)
      refine tr_msn (j := T) rfl (by omega) (by omega) rfl (fun _ => rfl) rfl rfl rfl ?_
      have e492 : (setF (setF σ' 490 (48 * T + p) y) 491 (48 * T + p) z).2 492 T = (its.length : Int) := by
        rw [setF_ne _ _ (by omega), setF_ne _ _ (by omega), hk, if_neg (by omega)]
        exact h1
      rw [e492]
      refine tr_ret rfl (fun _ => rfl) (K _ ⟨?_, ?_, ?_⟩ ⟨hr, fun q i hq => ?_⟩)
      · rw [setF_same, List.length_insertIdx_of_le_length hp]
        omega
      · refine h2.ins hp (fun i => ?_)
        rw [setF_ne _ _ (by omega), setF_ne _ _ (by omega), setF_get, hk]
        by_cases e : i = 48 * T + p
        · rw [if_pos ⟨rfl, e⟩, if_pos e]
        · rw [if_neg (fun g => e g.2), if_neg e]
          by_cases e2 : 48 * T + p < i ∧ i ≤ 48 * T + its.length
          · rw [if_pos ⟨Or.inl rfl, by omega⟩, if_pos e2]
          · rw [if_neg (fun g => e2 (by omega)), if_neg e2]
      · refine h3.ins (by omega) (fun i => ?_)
        rw [setF_ne _ _ (by omega), setF_get]
        by_cases e : i = 48 * T + p
        · rw [if_pos ⟨rfl, e⟩, if_pos e]
        · rw [if_neg (fun g => e g.2), if_neg e, setF_ne _ _ (by omega), hk]
          by_cases e2 : 48 * T + p < i ∧ i ≤ 48 * T + lvs.length
          · rw [if_pos ⟨Or.inr rfl, by omega⟩, if_pos e2]
          · rw [if_neg (fun g => e2 (by omega)), if_neg e2]
      · rw [setF_ne _ _ (by omega), setF_ne _ _ (by omega), setF_ne _ _ (by omega), hk, if_neg (by omega)]
    | succ d ih =>
      intro σ' hd hk hr
      iterate 6 (refine tr_mv rfl (fun _ => rfl) ?_)
      refine tr_cmp2 rfl (m32_of (by omega)) (m32_of (by omega)) (fun c1 => absurd c1 (by show ¬ _ ≤ _; omega)) (fun _ => ?_)
      repeat (first | refine tr_mgr rfl (by decide) rfl ?_ | refine tr_mgi rfl (by decide) (by decide) rfl ?_ | refine tr_mv rfl (fun _ => rfl) ?_)
      refine tr_man (j := 48 * T + p + d) rfl (by omega) (by omega) rfl (fun _ => rfl) rfl rfl rfl ?_
      refine tr_msn (j := 48 * T + p + (d + 1)) rfl (by omega) (by omega) rfl (fun _ => rfl) rfl rfl rfl ?_
      repeat (first | refine tr_mgr rfl (by decide) rfl ?_ | refine tr_mgi rfl (by decide) (by decide) rfl ?_ | refine tr_mv rfl (fun _ => rfl) ?_)
      refine tr_man (j := 48 * T + p + d) rfl (by omega) (by omega) rfl (fun _ => rfl) rfl rfl rfl ?_
      refine tr_msn (j := 48 * T + p + (d + 1)) rfl (by omega) (by omega) rfl (fun _ => rfl) rfl rfl rfl ?_
      iterate 2 (refine tr_mv rfl (fun _ => rfl) ?_)
      show Tr Ls N 237 13 [some (mP (some 480)), some (mI (T : Int)), some (mI (p : Int)), some (mI y), some (mI z), some (mI (((48 * T + p + (d + 1) : Nat) : Int) + -1))] [] _ post
      rw [show ((48 * T + p + (d + 1) : Nat) : Int) + -1 = ((48 * T + p + d : Nat) : Int) by omega]
      refine ih _ (by omega) (fun q i => ?_) hr
      rw [setF_get, setF_ne _ _ (by omega)]
      by_cases e1 : q = 491 ∧ i = 48 * T + p + (d + 1)
      · rw [if_pos e1, if_pos ⟨Or.inr e1.1, by omega, by omega⟩, hk, if_neg (by omega), e1.1, e1.2]
        rfl
      · rw [if_neg e1, setF_get]
        by_cases e2 : q = 490 ∧ i = 48 * T + p + (d + 1)
        · rw [if_pos e2, if_pos ⟨Or.inl e2.1, by omega, by omega⟩, hk, if_neg (by omega), e2.1, e2.2]
          rfl
        · rw [if_neg e2, hk]
          by_cases e3 : (q = 490 ∨ q = 491) ∧ 48 * T + p + (d + 1) < i ∧ i ≤ 48 * T + its.length
          · rw [if_pos e3, if_pos ⟨e3.1, by omega, e3.2.2⟩]
          · rw [if_neg e3, if_neg (fun g => e3 ⟨g.1, by omega, g.2.2⟩)]
  repeat (first | refine tr_mgr rfl (by decide) rfl ?_ | refine tr_mgi rfl (by decide) (by decide) rfl ?_ | refine tr_mv rfl (fun _ => rfl) ?_)
  refine tr_man (j := T) rfl (by omega) (by omega) rfl (fun _ => rfl) rfl rfl rfl ?_
  rw [h1]
  iterate 2 (refine tr_mv rfl (fun _ => rfl) ?_)
  have := loop (its.length - p) σ (by omega) (fun q i => by rw [if_neg (by omega)]) rfl
  rw [show ((48 * T + p + (its.length - p) : Nat) : Int) = 48 * (T : Int) + (its.length : Int) by omega] at this
  exact this
theorem rplace_nat (xs : List Int) (x : Int) : (rplace xs x = -1 ∧ x ∉ xs) ∨ ∃ p : Nat, rplace xs x = (p : Int) ∧ p < xs.length ∧ x ∈ xs := by
  rcases rplace_or xs x with g | ⟨g1, g2, g3⟩
  · exact Or.inl g
  · exact Or.inr ⟨(rplace xs x).toNat, by omega, by omega, g3⟩
theorem rget_nat {p : Nat} (hp : p < xs.length) : rget xs (p : Int) = xs.getD p 0 := by
  unfold rget
  rw [if_pos (by omega), Int.toNat_natCast]
theorem rrem_nat {p : Nat} (hp : p < xs.length) : rrem xs (p : Int) = xs.eraseIdx p := by
  unfold rrem
  rw [if_pos (by omega), Int.toNat_natCast]
theorem s_235 {its lvs : List Int} (hT : T < 4) (hx : in32 x) (hL : lsM T σ its lvs) (hll : its.length = lvs.length) (hl : its.length ≤ 48) (hin : ∀ y ∈ its, in32 y) (hin2 : ∀ y ∈ lvs, in32 y) (hn : its.Nodup) (K : ∀ σ', lsM T σ' (itL its x) (lvL its lvs x) → only (cLs T) σ σ' → post (.inl none) σ') :
    Tr Ls N 235 0 [some (mP (some 480)), some (mI (T : Int)), some (mI x), none, none, none, none] [] σ post := by
  obtain ⟨h1, h2, h3⟩ := hL
  unfold itL lvL at K
  repeat (first | refine tr_mgr rfl (by decide) rfl ?_ | refine tr_mgi rfl (by decide) (by decide) rfl ?_ | refine tr_mv rfl (fun _ => rfl) ?_)
  refine tr_vc (q := 480) rfl isO_480 rfl rfl rfl (s_232 hT hx h1 hl h2 hin hn ?_)
  iterate 3 (refine tr_mv rfl (fun _ => rfl) ?_)
  rcases rplace_nat its x with ⟨g1, g2⟩ | ⟨p, g1, g2, g3⟩
  · rw [g1] at K ⊢
    refine tr_cmp2 rfl (m32_of (x := -1) ⟨by decide, by decide⟩) (m32_of (x := -1) ⟨by decide, by decide⟩) (fun c1 => absurd rfl c1) (fun _ => ?_)
    refine tr_ret rfl (fun _ => rfl) (K σ ?_ only.rf)
    rw [if_pos rfl]
    exact ⟨h1, h2, h3⟩
  · rw [g1] at K ⊢
    rw [if_neg (by omega), rrem_nat g2] at K
    refine tr_cmp2 rfl (m32_of (by omega)) (m32_of (x := -1) ⟨by decide, by decide⟩) (fun _ => ?_) (fun c1 => absurd (show (p : Int) ≠ -1 by omega) c1)
    have glp : lvs.getD p 0 ∈ lvs := by
      rw [List.getD_eq_getElem?_getD, List.getElem?_eq_getElem (by omega)]
      exact List.getElem_mem _
    have ilp := hin2 _ glp
    -- behind the change of the level
    have h92 : ∀ (σ1 : Sg) (lv1 : List Int) (v5 : Int), lv1.length = its.length → rset lvs ((p : Int) + 1) (imin (rget lvs (p : Int)) (rget lvs ((p : Int) + 1))) = lv1 → σ1.1 = σ.1 → (∀ q i, ¬ (q = 491 ∧ i = 48 * T + p + 1) → σ1.2 q i = σ.2 q i) → mseg σ1 491 (48 * T) lv1 → (p + 1 = its.length → σ1 = σ) → Tr Ls N 235 92 [some (mP (some 480)), some (mI (T : Int)), some (mI x), some (mI (p : Int)), some (mI ((48 * T + p : Nat) : Int)), some (mI v5), none] [] σ1 post := by
      intro σ1 lv1 v5 e1 e2 e3 e4 e5 e6
      rw [e2, rrem_nat (show p < lv1.length by omega)] at K
      have loop : ∀ (d j : Nat) (σ' : Sg), p + j + d + 1 = its.length → (∀ q i, σ'.2 q i = if (q = 490 ∨ q = 491) ∧ 48 * T + p ≤ i ∧ i < 48 * T + p + j then σ1.2 q (i + 1) else if q = 492 ∧ i = T then (its.length : Int) - 1 else σ1.2 q i) → σ'.1 = σ.1 → Tr Ls N 235 106 [some (mP (some 480)), some (mI (T : Int)), some (mI x), some (mI (p : Int)), some (mI ((48 * T + p : Nat) : Int)), some (mI v5), some (mI ((48 * T + p + j : Nat) : Int))] [] σ' post := by
        intro d
        induction d with
        | zero =>
          intro j σ' hd hk hr
          repeat (first | refine tr_mgr rfl (by decide) rfl ?_ | refine tr_mgi rfl (by decide) (by decide) rfl ?_ | refine tr_mv rfl (fun _ => rfl) ?_)
          refine tr_man (j := T) rfl (by omega) (by omega) rfl (fun _ => rfl) rfl rfl rfl ?_
          rw [hk 492 T, if_neg (by omega), if_pos ⟨rfl, rfl⟩]
          iterate 1 (refine tr_mv rfl (fun _ => rfl) ?_)
          refine tr_cmp2 rfl (m32_of (by omega)) (m32_of (by omega)) (fun _ => ?_) (fun c1 => absurd (show 48 * (T : Int) + ((its.length : Int) - 1) ≤ ((48 * T + p + j : Nat) : Int) by omega) c1)
          refine tr_ret rfl (fun _ => rfl) (K σ' ⟨?_, ?_, ?_⟩ ⟨hr, fun q i hq => ?_⟩)
          · rw [hk, if_neg (by omega), if_pos ⟨rfl, rfl⟩, List.length_eraseIdx_of_lt g2]
            omega
          · refine (h2.keep (σ' := σ1) (fun i _ _ => e4 _ _ (by omega))).erase g2 (fun i => ?_)
            rw [hk]
            by_cases e : 48 * T + p ≤ i ∧ i < 48 * T + (its.length - 1)
            · rw [if_pos e, if_pos ⟨Or.inl rfl, by omega⟩]
            · rw [if_neg e, if_neg (fun g => e (by omega)), if_neg (by omega)]
          · refine e5.erase (by omega) (fun i => ?_)
            rw [hk]
            by_cases e : 48 * T + p ≤ i ∧ i < 48 * T + (lv1.length - 1)
            · rw [if_pos e, if_pos ⟨Or.inr rfl, by omega⟩]
            · rw [if_neg e, if_neg (fun g => e (by omega)), if_neg (by omega)]
          · rw [hk, if_neg (by omega), if_neg (by omega)]
            by_cases g : q = 491 ∧ i = 48 * T + p + 1
            · rw [e6 (by omega)]
            · exact e4 q i g
        | succ d ih =>
          intro j σ' hd hk hr
          repeat (first | refine tr_mgr rfl (by decide) rfl ?_ | refine tr_mgi rfl (by decide) (by decide) rfl ?_ | refine tr_mv rfl (fun _ => rfl) ?_)
          refine tr_man (j := T) rfl (by omega) (by omega) rfl (fun _ => rfl) rfl rfl rfl ?_
          rw [hk 492 T, if_neg (by omega), if_pos ⟨rfl, rfl⟩]
          iterate 1 (refine tr_mv rfl (fun _ => rfl) ?_)
          refine tr_cmp2 rfl (m32_of (by omega)) (m32_of (by omega)) (fun c1 => absurd c1 (by show ¬ _ ≤ _; omega)) (fun _ => ?_)
          repeat (first | refine tr_mgr rfl (by decide) rfl ?_ | refine tr_mgi rfl (by decide) (by decide) rfl ?_ | refine tr_mv rfl (fun _ => rfl) ?_)
          refine tr_man (j := 48 * T + p + j + 1) rfl (by omega) (by omega) rfl (fun _ => rfl) rfl rfl rfl ?_
          refine tr_msn (j := 48 * T + p + j) rfl (by omega) (by omega) rfl (fun _ => rfl) rfl rfl rfl ?_
          repeat (first | refine tr_mgr rfl (by decide) rfl ?_ | refine tr_mgi rfl (by decide) (by decide) rfl ?_ | refine tr_mv rfl (fun _ => rfl) ?_)
          refine tr_man (j := 48 * T + p + j + 1) rfl (by omega) (by omega) rfl (fun _ => rfl) rfl rfl rfl ?_
          refine tr_msn (j := 48 * T + p + j) rfl (by omega) (by omega) rfl (fun _ => rfl) rfl rfl rfl ?_
          iterate 2 (refine tr_mv rfl (fun _ => rfl) ?_)
          show Tr Ls N 235 106 [some (mP (some 480)), some (mI (T : Int)), some (mI x), some (mI (p : Int)), some (mI ((48 * T + p : Nat) : Int)), some (mI v5), some (mI (((48 * T + p + j : Nat) : Int) + 1))] [] _ post
          rw [show ((48 * T + p + j : Nat) : Int) + 1 = ((48 * T + p + (j + 1) : Nat) : Int) by omega]
          refine ih (j + 1) _ (by omega) (fun q i => ?_) hr
          rw [setF_get, setF_ne _ _ (by omega)]
          by_cases f1 : q = 491 ∧ i = 48 * T + p + j
          · rw [if_pos f1, if_pos ⟨Or.inr f1.1, by omega, by omega⟩, hk, if_neg (by omega), if_neg (by omega), f1.1, f1.2]
          · rw [if_neg f1, setF_get]
            by_cases f2 : q = 490 ∧ i = 48 * T + p + j
            · rw [if_pos f2, if_pos ⟨Or.inl f2.1, by omega, by omega⟩, hk, if_neg (by omega), if_neg (by omega), f2.1, f2.2]
            · rw [if_neg f2, hk]
              by_cases f3 : (q = 490 ∨ q = 491) ∧ 48 * T + p ≤ i ∧ i < 48 * T + p + (j + 1)
              · rw [if_pos f3, if_pos ⟨f3.1, by omega, by omega⟩]
              · rw [if_neg f3, if_neg (fun g => f3 ⟨g.1, by omega, by omega⟩)]
      repeat (first | refine tr_mgr rfl (by decide) rfl ?_ | refine tr_mgi rfl (by decide) (by decide) rfl ?_ | refine tr_mv rfl (fun _ => rfl) ?_)
      refine tr_man (j := T) rfl (by omega) (by omega) rfl (fun _ => rfl) rfl rfl rfl ?_
      rw [e4 492 T (by omega), h1]
      iterate 2 (refine tr_mv rfl (fun _ => rfl) ?_)
      refine tr_msn (j := T) rfl (by omega) (by omega) rfl (fun _ => rfl) rfl rfl rfl ?_
      iterate 2 (refine tr_mv rfl (fun _ => rfl) ?_)
      exact loop (its.length - 1 - p) 0 _ (by omega) (fun q i => by
        rw [setF_get]
        by_cases f : q = 492 ∧ i = T
        · rw [if_pos f, if_neg (by omega)]
        · rw [if_neg f, if_neg (by omega)]) e3
    repeat (first | refine tr_mgr rfl (by decide) rfl ?_ | refine tr_mgi rfl (by decide) (by decide) rfl ?_ | refine tr_mv rfl (fun _ => rfl) ?_)
    refine tr_man (j := T) rfl (by omega) (by omega) rfl (fun _ => rfl) rfl rfl rfl ?_
    rw [h1]
    iterate 2 (refine tr_mv rfl (fun _ => rfl) ?_)
    have h38 : ∀ v5, (v5 = 1 ↔ p + 1 = its.length) → (v5 = 0 ∨ v5 = 1) → Tr Ls N 235 38 [some (mP (some 480)), some (mI (T : Int)), some (mI x), some (mI (p : Int)), some (mI ((48 * T + p : Nat) : Int)), none, none] [mI v5] σ post := by
      intro v5 hv hv2
      iterate 2 (refine tr_mv rfl (fun _ => rfl) ?_)
      refine tr_if2 rfl (m32_of (by omega)) (fun c5 => ?_) (fun c5 => ?_)
      · have hlast : p + 1 = its.length := hv.mp (by omega)
        refine h92 σ lvs v5 hll.symm ?_ rfl (fun _ _ _ => rfl) h3 (fun _ => rfl)
        unfold rset
        rw [if_neg (by omega)]
      · have hlast : p + 1 < its.length := by
          have : ¬ (p + 1 = its.length) := fun g => by have := hv.mpr g; omega
          omega
        have e1 : rget lvs ((p : Int) + 1) = lvs.getD (p + 1) 0 := by
          rw [show (p : Int) + 1 = ((p + 1 : Nat) : Int) by omega]
          exact rget_nat (by omega)
        have ilp2 : in32 (lvs.getD (p + 1) 0) := by
          refine hin2 _ ?_
          rw [List.getD_eq_getElem?_getD, List.getElem?_eq_getElem (by omega)]
          exact List.getElem_mem _
        have hfin : ∀ v, v = imin (rget lvs (p : Int)) (rget lvs ((p : Int) + 1)) → Tr Ls N 235 91 [some (mP (some 480)), some (mI (T : Int)), some (mI x), some (mI (p : Int)), some (mI ((48 * T + p : Nat) : Int)), some (mI v5), none] [mI v, mI (((48 * T + p : Nat) : Int) + 1), mP (some 491)] σ post := by
          intro v ev
          refine tr_msn (j := 48 * T + (p + 1)) rfl (by omega) (by omega) rfl (fun _ => rfl) rfl rfl rfl ?_
          refine h92 _ (lvs.set (p + 1) v) v5 (by rw [List.length_set]; exact hll.symm) ?_ rfl (fun q i hq => setF_ne _ _ (by omega)) h3.set (fun g => absurd g (by omega))
          rw [← ev, show (p : Int) + 1 = ((p + 1 : Nat) : Int) by omega, rset_nat (by omega)]
        rw [e1, rget_nat (by omega)] at hfin
        unfold imin at hfin
        repeat (first | refine tr_mgr rfl (by decide) rfl ?_ | refine tr_mgi rfl (by decide) (by decide) rfl ?_ | refine tr_mv rfl (fun _ => rfl) ?_)
        refine tr_man (j := 48 * T + p) rfl (by omega) (by omega) rfl (fun _ => rfl) rfl rfl rfl ?_
        rw [h3.get (by omega)]
        repeat (first | refine tr_mgr rfl (by decide) rfl ?_ | refine tr_mgi rfl (by decide) (by decide) rfl ?_ | refine tr_mv rfl (fun _ => rfl) ?_)
        refine tr_man (j := 48 * T + (p + 1)) rfl (by omega) (by omega) rfl (fun _ => rfl) rfl rfl rfl ?_
        rw [h3.get (by omega)]
        refine tr_cmp2 rfl (m32_of ilp) (m32_of ilp2) (fun c6 => ?_) (fun c6 => ?_)
        · have c6 : lvs.getD (p + 1) 0 ≤ lvs.getD p 0 := c6
          repeat (first | refine tr_mgr rfl (by decide) rfl ?_ | refine tr_mgi rfl (by decide) (by decide) rfl ?_ | refine tr_mv rfl (fun _ => rfl) ?_)
          refine tr_man (j := 48 * T + (p + 1)) rfl (by omega) (by omega) rfl (fun _ => rfl) rfl rfl rfl ?_
          rw [h3.get (by omega)]
          exact hfin _ (by split <;> omega)
        · have c6 : ¬ lvs.getD (p + 1) 0 ≤ lvs.getD p 0 := c6
          repeat (first | refine tr_mgr rfl (by decide) rfl ?_ | refine tr_mgi rfl (by decide) (by decide) rfl ?_ | refine tr_mv rfl (fun _ => rfl) ?_)
          refine tr_man (j := 48 * T + p) rfl (by omega) (by omega) rfl (fun _ => rfl) rfl rfl rfl ?_
          rw [h3.get (by omega)]
          iterate 1 (refine tr_mv rfl (fun _ => rfl) ?_)
          exact hfin _ (by split <;> omega)
    refine tr_cmp2 rfl (m32_of (by omega)) (m32_of (by omega)) (fun c4 => ?_) (fun c4 => ?_)
    · iterate 1 (refine tr_mv rfl (fun _ => rfl) ?_)
      exact h38 0 (by omega) (Or.inl rfl)
    · iterate 2 (refine tr_mv rfl (fun _ => rfl) ?_)
      exact h38 1 (by omega) (Or.inr rfl)
end MLIST
