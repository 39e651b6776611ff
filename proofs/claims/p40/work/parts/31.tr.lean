/-! Runs of the small machine behind the constructors, told over rows and numbers. -/
abbrev Sg : Type := (Nat → List Int) × (Nat → Nat → Int)
abbrev in32 (x : Int) : Prop := -2147483648 ≤ x ∧ x < 2147483648
theorem m32_of {x : Int} (h : in32 x) : m32 x = x := Int32.toInt_ofInt_of_le (by have := h.1; omega) (by have := h.2; omega)
theorem m32_nat {n : Nat} (h : n < 2147483648) : m32 (n : Int) = n := m32_of ⟨by omega, by omega⟩
def mPf : List (Nat × List (Option Nat)) → Nat → Nat → Option Nat
  | [], _, _ => none
  | q :: l, a, j => bif Nat.beq q.1 a then q.2.getD j none else mPf l a j
def mPtr (q j : Nat) : Option Nat := mPf mPts q j
def isRow (a n : Nat) : Prop := 2 ≤ a ∧ mShp[a]? = some (24, 2) ∧ mShp[a + 1]? = some (0, n)
def isO (q c : Nat) : Prop := 2 ≤ q ∧ mShp[q]? = some (16 + c, mnf c)
def rowC (q : Nat) : Bool := decide (mShp[q]? = some (24, 2)) || (match q with
  | 0 => false
  | p + 1 => decide (mShp[p]? = some (24, 2)))
def rep (Ls : Nat) (h : mH) (σ : Sg) : Prop := h.1 = (0, Ls) :: mShp.tail ∧
  (∀ a n, isRow a n → h.2.1 a 0 = ((a + 1 : Nat) : Int) ∧ h.2.1 a 1 = ((σ.1 a).length : Int) ∧ (σ.1 a).length ≤ n ∧ (∀ i, i < (σ.1 a).length → h.2.1 (a + 1) i = (σ.1 a).getD i 0) ∧ ∀ x ∈ σ.1 a, in32 x) ∧
  (∀ q j v, mPtr q j = some v → h.2.1 q j = (v : Int)) ∧ (∀ q j, rowC q = false → mPtr q j = none → h.2.1 q j = σ.2 q j) ∧ (∀ i, in32 (σ.2 0 i)) ∧ ∀ j, j < 4 → σ.2 1 j = ([1, 1, 2, 3] : List Int).getD j 0
def setR (σ : Sg) (a : Nat) (xs : List Int) : Sg := (fun b => if b = a then xs else σ.1 b, σ.2)
def setF (σ : Sg) (q i : Nat) (x : Int) : Sg := (σ.1, mup σ.2 q i x)
abbrev tP : Type := Option mV ⊕ Nat → Sg → Prop
/-- from here the machine comes to an end, N exceptions at most on the way, and what is told then holds -/
def Tr (Ls N k pc : Nat) (L : mLs) (st : List mV) (σ : Sg) (post : tP) : Prop := ∀ h, rep Ls h σ → ∃ f o h' c s σ', mrun mPg f k pc L st h = some (o, h', c, s) ∧ c ≤ N ∧ s ≤ 6 * N ∧ rep Ls h' σ' ∧ post o σ'
def tK (Ls N k pc : Nat) (L : mLs) (rest : List mV) (post : tP) : tP := fun o σ => match o with
  | .inl v => Tr Ls N k (pc + 3) L (v.toList ++ rest) σ post
  | .inr E => match mPg.2.1 k pc E with
    | none => post (.inr E) σ
    | some (pc', i) => mok i L = true ∧ Tr Ls N k pc' (L.set i none) [] σ post
abbrev mcP (c : Jvm.ClassFile.Cond) (x y : Int) : Prop := match c with
  | .eq => x = y
  | .ne => x ≠ y
  | .lt => x < y
  | .ge => y ≤ x
  | .gt => y < x
  | .le => x ≤ y
theorem mcnd_iff {c : Jvm.ClassFile.Cond} {x y : Int} : mcnd c x y = true ↔ mcP c x y := by cases c <;> exact decide_eq_true_iff
theorem mbump_some {c s : Nat} {r : Option mR} {q : mR} (hq : mbump c s r = some q) : ∃ o h c' s', r = some (o, h, c', s') ∧ q = (o, h, c + c', s + s') := by
  unfold mbump at hq
  split at hq
  · cases hq
    exact ⟨_, _, _, _, rfl, rfl⟩
  · cases hq
theorem mrun_mono {P : mProg} : ∀ (f k pc : Nat) (L : mLs) (st : List mV) (h : mH) (r : mR), mrun P f k pc L st h = some r → ∀ g, f ≤ g → mrun P g k pc L st h = some r := by
  intro f
  induction f with
  | zero => intro k pc L st h r hr; cases hr
  | succ f ih =>
    intro k pc L st h r hr g hg
    obtain ⟨g, rfl⟩ : ∃ g', g = g' + 1 := ⟨g - 1, by omega⟩
    have hg : f ≤ g := by omega
    unfold mrun at hr ⊢
    split at hr
    · cases hr
    · rename_i e he
      try rw [he]
      try dsimp only
      split at hr
      · cases hr
      · rename_i pc' L' st' h' dc ds hs
        try rw [hs]
        try dsimp only
        obtain ⟨o, h2, c', s', h1, rfl⟩ := mbump_some hr
        rw [ih _ _ _ _ _ _ h1 g hg]
        rfl
      · rename_i k' as rest hs
        try rw [hs]
        try dsimp only
        split at hr
        · cases hr
        · rename_i v h1 c' s' hc
          rw [ih _ _ _ _ _ _ hc g hg]
          dsimp only
          obtain ⟨o, h2, c2, s2, h3, rfl⟩ := mbump_some hr
          rw [ih _ _ _ _ _ _ h3 g hg]
          rfl
        · rename_i E h1 c' s' hc
          rw [ih _ _ _ _ _ _ hc g hg]
          dsimp only
          split at hr
          · rename_i hcat
            try rw [hcat]
            exact hr
          · rename_i pc' i hcat
            try rw [hcat]
            try dsimp only
            split at hr
            · rename_i hm
              rw [if_pos hm]
              obtain ⟨o, h2, c2, s2, h3, rfl⟩ := mbump_some hr
              rw [ih _ _ _ _ _ _ h3 g hg]
              rfl
            · cases hr
      · rename_i v hs
        try rw [hs]
        exact hr
      · rename_i E hs
        try rw [hs]
        exact hr
/-- one run, nothing made and nothing thrown -/
def Rn (k pc : Nat) (L : mLs) (st : List mV) (h : mH) (v : Option mV) (h' : mH) : Prop := ∃ f, mrun mPg f k pc L st h = some (.inl v, h', 0, 0)
section TR
variable {Ls N N1 N2 k pc pc' k' n a b c q t : Nat} {L L' : mLs} {st st' r : List mV} {σ σ' : Sg} {post : tP} {e : mE} {h h1 h' : mH} {v : Option mV} {x y i : Int}
theorem rn_step (he : mPg.1 k pc = some e) (hs : mstep mPg.2.2.2.1 mPg.2.2.2.2 e pc L st h = some (.inl (pc', L', st', h1, 0, 0))) (K : Rn k pc' L' st' h1 v h') : Rn k pc L st h v h' := by
  obtain ⟨f, hf⟩ := K
  refine ⟨f + 1, ?_⟩
  unfold mrun
  rw [he]
  dsimp only
  rw [hs]
  dsimp only
  rw [hf]
  rfl
theorem rn_ret (he : mPg.1 k pc = some e) (hs : mstep mPg.2.2.2.1 mPg.2.2.2.2 e pc L st h = some (.inr (.inr (.inl v)))) : Rn k pc L st h v h := by
  refine ⟨1, ?_⟩
  unfold mrun
  rw [he]
  dsimp only
  rw [hs]
theorem tr_step (he : mPg.1 k pc = some e) (hs : ∀ h, rep Ls h σ → ∃ h', mstep mPg.2.2.2.1 mPg.2.2.2.2 e pc L st h = some (.inl (pc', L', st', h', 0, 0)) ∧ rep Ls h' σ') (K : Tr Ls N k pc' L' st' σ' post) : Tr Ls N k pc L st σ post := by
  intro h hr
  obtain ⟨h', h1, h2⟩ := hs h hr
  obtain ⟨f, o, h'', c, s, σ'', h3, h4⟩ := K h' h2
  refine ⟨f + 1, o, h'', c, s, σ'', ?_, h4⟩
  unfold mrun
  rw [he]
  dsimp only
  rw [h1]
  dsimp only
  rw [h3]
  simp [mbump]
theorem tr_mv (he : mPg.1 k pc = some e) (hs : ∀ h, mstep mPg.2.2.2.1 mPg.2.2.2.2 e pc L st h = some (.inl (pc', L', st', h, 0, 0))) (K : Tr Ls N k pc' L' st' σ post) : Tr Ls N k pc L st σ post :=
  tr_step he (fun h hr => ⟨h, hs h, hr⟩) K
theorem tr_call {as : List mV} (he : mPg.1 k pc = some e) (hs : ∀ h, rep Ls h σ → mstep mPg.2.2.2.1 mPg.2.2.2.2 e pc L st h = some (.inr (.inl (k', as, r)))) (hk : Tr Ls N1 k' 0 (mentry as (mPg.2.2.1 k')) [] σ (tK Ls N2 k pc L r post)) (hN : N1 + N2 ≤ N) : Tr Ls N k pc L st σ post := by
  intro h hr
  obtain ⟨f, o, h1, c, s, σ1, g1, g2, g3, g4, g5⟩ := hk h hr
  cases o with
  | inl v =>
    obtain ⟨f2, o2, h2, c2, s2, σ2, k1, k2, k3, k4, k5⟩ := (show Tr Ls N2 k (pc + 3) L (v.toList ++ r) σ1 post from g5) h1 g4
    refine ⟨max f f2 + 1, o2, h2, c + c2, s + s2, σ2, ?_, by omega, by omega, k4, k5⟩
    unfold mrun
    rw [he]
    dsimp only
    rw [hs h hr]
    dsimp only
    rw [mrun_mono f _ _ _ _ _ _ g1 (max f f2) (Nat.le_max_left _ _)]
    dsimp only
    rw [mrun_mono f2 _ _ _ _ _ _ k1 (max f f2) (Nat.le_max_right _ _)]
    rfl
  | inr E =>
    unfold tK at g5
    dsimp only at g5
    split at g5
    · rename_i hcat
      refine ⟨f + 1, .inr E, h1, c, s, σ1, ?_, by omega, by omega, g4, g5⟩
      unfold mrun
      rw [he]
      dsimp only
      rw [hs h hr]
      dsimp only
      rw [g1]
      dsimp only
      rw [hcat]
    · rename_i pc' i hcat
      obtain ⟨hm, g5⟩ := g5
      obtain ⟨f2, o2, h2, c2, s2, σ2, k1, k2, k3, k4, k5⟩ := g5 h1 g4
      refine ⟨max f f2 + 1, o2, h2, c + c2, s + s2, σ2, ?_, by omega, by omega, k4, k5⟩
      unfold mrun
      rw [he]
      dsimp only
      rw [hs h hr]
      dsimp only
      rw [mrun_mono f _ _ _ _ _ _ g1 (max f f2) (Nat.le_max_left _ _)]
      dsimp only
      rw [hcat]
      dsimp only
      rw [if_pos hm, mrun_mono f2 _ _ _ _ _ _ k1 (max f f2) (Nat.le_max_right _ _)]
      rfl
/-- a spec by runs serves as a callee's -/
theorem tr_rn {as : List mV} {v1 : Option mV} (he : mPg.1 k pc = some e) (hs : ∀ h, rep Ls h σ → mstep mPg.2.2.2.1 mPg.2.2.2.2 e pc L st h = some (.inr (.inl (k', as, r)))) (hk : ∀ h, rep Ls h σ → ∃ h', Rn k' 0 (mentry as (mPg.2.2.1 k')) [] h v1 h' ∧ rep Ls h' σ') (K : Tr Ls N k (pc + 3) L (v1.toList ++ r) σ' post) : Tr Ls N k pc L st σ post := by
  refine tr_call (N1 := 0) (N2 := N) he hs (fun h hr => ?_) (by omega)
  obtain ⟨h', ⟨f, hf⟩, hr'⟩ := hk h hr
  exact ⟨f, _, h', 0, 0, σ', hf, Nat.le_refl _, Nat.le_refl _, hr', K⟩
theorem tr_if {cd : Jvm.ClassFile.Cond} {off : Int} (he : mPg.1 k pc = some (.ifCond cd off, n, t, b, c)) (K1 : mcP cd (m32 x) 0 → Tr Ls N k t L r σ post) (K2 : ¬ mcP cd (m32 x) 0 → Tr Ls N k (pc + n) L r σ post) : Tr Ls N k pc L (mI x :: r) σ post := by
  by_cases hc : mcP cd (m32 x) 0
  · refine tr_mv he (fun h => ?_) (K1 hc)
    simp only [mstep, mi1, mif, mnx]
    rw [if_pos (mcnd_iff.mpr hc)]
  · refine tr_mv he (fun h => ?_) (K2 hc)
    simp only [mstep, mi1, mif, mnx]
    rw [if_neg (fun h9 => hc (mcnd_iff.mp h9))]
theorem tr_cmp {cd : Jvm.ClassFile.Cond} {off : Int} (he : mPg.1 k pc = some (.if_icmp cd off, n, t, b, c)) (K1 : mcP cd (m32 x) (m32 y) → Tr Ls N k t L r σ post) (K2 : ¬ mcP cd (m32 x) (m32 y) → Tr Ls N k (pc + n) L r σ post) : Tr Ls N k pc L (mI y :: mI x :: r) σ post := by
  by_cases hc : mcP cd (m32 x) (m32 y)
  · refine tr_mv he (fun h => ?_) (K1 hc)
    simp only [mstep, mi2, mif, mnx]
    rw [if_pos (mcnd_iff.mpr hc)]
  · refine tr_mv he (fun h => ?_) (K2 hc)
    simp only [mstep, mi2, mif, mnx]
    rw [if_neg (fun h9 => hc (mcnd_iff.mp h9))]
theorem tr_ret (he : mPg.1 k pc = some e) (hs : ∀ h, mstep mPg.2.2.2.1 mPg.2.2.2.2 e pc L st h = some (.inr (.inr (.inl v)))) (K : post (.inl v) σ) : Tr Ls N k pc L st σ post := by
  intro h hr
  refine ⟨1, .inl v, h, 0, 0, σ, ?_, Nat.zero_le _, Nat.zero_le _, hr, K⟩
  unfold mrun
  rw [he]
  dsimp only
  rw [hs]
theorem tr_reti (he : mPg.1 k pc = some (.ireturn, n, a, b, c)) (hx : c = 0 ∨ x = 0 ∨ x = 1) (K : post (.inl (some (mI x))) σ) : Tr Ls N k pc L [mI x] σ post :=
  tr_ret he (fun h => by simp only [mstep, mi1]; rw [if_pos ⟨trivial, hx⟩]) K
theorem tr_throw {j : Nat} (he : mPg.1 k pc = some (.new j, n, a, 1, c)) (K : post (.inr a) σ) : Tr Ls (N + 1) k pc L [] σ post := by
  intro h hr
  refine ⟨1, .inr a, (h.1, h.2.1, false), 1, 6, σ, ?_, by omega, by omega, hr, K⟩
  unfold mrun
  rw [he]
  rfl
/-! what is known of the heap -/
theorem rep_shp (hr : rep Ls h σ) {q : Nat} (hq : 1 ≤ q) : h.1[q]? = mShp[q]? := by
  rw [hr.1]
  obtain ⟨p, rfl⟩ : ∃ p, q = p + 1 := ⟨q - 1, by omega⟩
  rfl
theorem rep_sz (hr : rep Ls h σ) {q kd n : Nat} (hq : 1 ≤ q) (hk : mShp[q]? = some (kd, n)) : msz h q kd = some n := by
  unfold msz
  rw [rep_shp hr hq, hk]
  exact if_pos rfl
theorem rep_obj (hr : rep Ls h σ) {q c : Nat} (hq : isO q c) : mobj h c (some (mP (some q))) = true := by
  unfold mobj
  dsimp only
  rw [rep_sz hr (Nat.le_of_succ_le hq.1) hq.2]
  simp [hq.1]
theorem rep_setF (hr : rep Ls h σ) {q j : Nat} (hq : 2 ≤ q) (h1 : rowC q = false) (h2 : mPtr q j = none) (x : Int) : rep Ls (h.1, mup h.2.1 q j x, h.2.2) (setF σ q j x) := by
  obtain ⟨r1, r2, r3, r4, r5, r6⟩ := hr
  refine ⟨r1, fun a n ha => ?_, fun p i v hp => ?_, fun p i hp1 hp2 => ?_, fun i => ?_, fun i hi => ?_⟩
  · have e1 : a ≠ q := fun e9 => by
      subst e9
      unfold rowC at h1
      rw [decide_eq_true ha.2.1] at h1
      simp at h1
    have e2 : a + 1 ≠ q := fun e9 => by
      subst e9
      unfold rowC at h1
      dsimp only at h1
      rw [decide_eq_true ha.2.1, Bool.or_true] at h1
      cases h1
    obtain ⟨g1, g2, g3, g4, g5⟩ := r2 a n ha
    refine ⟨?_, ?_, g3, fun i hi => ?_, g5⟩
    · show mup h.2.1 q j x a 0 = _
      unfold mup
      rw [if_neg e1]
      exact g1
    · show mup h.2.1 q j x a 1 = _
      unfold mup
      rw [if_neg e1]
      exact g2
    · show mup h.2.1 q j x (a + 1) i = _
      unfold mup
      rw [if_neg e2]
      exact g4 i hi
  · show mup h.2.1 q j x p i = _
    unfold mup
    split
    · rename_i e1
      split
      · rename_i e2
        rw [e1, e2, h2] at hp
        cases hp
      · exact r3 p i v hp
    · exact r3 p i v hp
  · show mup h.2.1 q j x p i = mup σ.2 q j x p i
    unfold mup
    rw [r4 p i hp1 hp2]
  · show in32 (mup σ.2 q j x 0 i)
    unfold mup
    rw [if_neg (by omega)]
    exact r5 i
  · show mup σ.2 q j x 1 i = _
    unfold mup
    rw [if_neg (by omega)]
    exact r6 i hi
theorem tr_gi {j : Nat} (he : mPg.1 k pc = some (.getfield j, n, a, b, c)) (hc : c ≠ 1) (hq : isO q a) (hb : b < mnf a) (h1 : rowC q = false) (h2 : mPtr q b = none) (K : Tr Ls N k (pc + n) L (mI (σ.2 q b) :: r) σ post) : Tr Ls N k pc L (mP (some q) :: r) σ post := by
  refine tr_step he (fun h hr => ⟨h, ?_, hr⟩) K
  simp only [mstep, mp1]
  rw [rep_sz hr (Nat.le_of_succ_le hq.1) hq.2]
  dsimp only
  rw [if_pos ⟨hq.1, hb⟩, if_neg hc, hr.2.2.2.1 q b h1 h2]
  rfl
theorem tr_gr {j w : Nat} (he : mPg.1 k pc = some (.getfield j, n, a, b, 1)) (hq : isO q a) (hb : b < mnf a) (h2 : mPtr q b = some w) (K : Tr Ls N k (pc + n) L (mP (some w) :: r) σ post) : Tr Ls N k pc L (mP (some q) :: r) σ post := by
  refine tr_step he (fun h hr => ⟨h, ?_, hr⟩) K
  simp only [mstep, mp1]
  rw [rep_sz hr (Nat.le_of_succ_le hq.1) hq.2]
  dsimp only
  rw [if_pos ⟨hq.1, hb⟩, if_pos trivial, hr.2.2.1 q b w h2, if_pos (by omega)]
  rfl
theorem tr_pi {j : Nat} (he : mPg.1 k pc = some (.putfield j, n, a, b, c)) (hc : c = 0 ∨ (c = 2 ∧ (x = 0 ∨ x = 1))) (hq : isO q a) (hb : b < mnf a) (h1 : rowC q = false) (h2 : mPtr q b = none) (K : Tr Ls N k (pc + n) L r (setF σ q b x) post) : Tr Ls N k pc L (mI x :: mP (some q) :: r) σ post := by
  refine tr_step he (fun h hr => ⟨_, ?_, rep_setF hr hq.1 h1 h2 x⟩) K
  simp only [mstep]
  rw [rep_sz hr (Nat.le_of_succ_le hq.1) hq.2]
  dsimp only
  rw [if_pos ⟨hq.1, hb, hc⟩]
  rfl
theorem tr_ia {kd nn : Nat} (hi : 0 ≤ m32 i ∧ m32 i < nn) (he : mPg.1 k pc = some e) (hs : ∀ h, mstep mPg.2.2.2.1 mPg.2.2.2.2 e pc L (mI i :: mP (some q) :: r) h = mrd h kd q i fun y => mnx (pc + n) L (mI y :: r) h) (hq : mShp[q]? = some (kd, nn)) (hq1 : 1 ≤ q) (h1 : rowC q = false) (h2 : ∀ j, mPtr q j = none) (K : Tr Ls N k (pc + n) L (mI (σ.2 q (m32 i).toNat) :: r) σ post) : Tr Ls N k pc L (mI i :: mP (some q) :: r) σ post := by
  refine tr_step he (fun h hr => ⟨h, ?_, hr⟩) K
  rw [hs]
  unfold mrd
  rw [rep_sz hr hq1 hq]
  dsimp only
  rw [if_pos hi, hr.2.2.2.1 q _ h1 (h2 _)]
  rfl
theorem tr_is {kd nn : Nat} (hi : 0 ≤ m32 i ∧ m32 i < nn) (he : mPg.1 k pc = some e) (hs : ∀ h, mstep mPg.2.2.2.1 mPg.2.2.2.2 e pc L (mI x :: mI i :: mP (some q) :: r) h = mwr h kd q i x fun h' => mnx (pc + n) L r h') (hq : mShp[q]? = some (kd, nn)) (hq1 : 2 ≤ q) (h1 : rowC q = false) (h2 : ∀ j, mPtr q j = none) (K : Tr Ls N k (pc + n) L r (setF σ q (m32 i).toNat x) post) : Tr Ls N k pc L (mI x :: mI i :: mP (some q) :: r) σ post := by
  refine tr_step he (fun h hr => ⟨_, ?_, rep_setF hr hq1 h1 (h2 _) x⟩) K
  rw [hs]
  unfold mwr
  rw [rep_sz hr (by omega) hq]
  dsimp only
  rw [if_pos ⟨hq1, hi⟩]
  rfl
theorem tr_aa {kd nn w : Nat} (hi : 0 ≤ m32 i ∧ m32 i < nn) (he : mPg.1 k pc = some (.aaload, n, kd, b, c)) (hq : mShp[q]? = some (kd, nn)) (hq1 : 1 ≤ q) (h2 : mPtr q (m32 i).toNat = some w) (K : Tr Ls N k (pc + n) L (mP (some w) :: r) σ post) : Tr Ls N k pc L (mI i :: mP (some q) :: r) σ post := by
  refine tr_step he (fun h hr => ⟨h, ?_, hr⟩) K
  simp only [mstep, mix, mrd]
  rw [rep_sz hr hq1 hq]
  dsimp only
  rw [if_pos hi, hr.2.2.1 q _ w h2, if_pos (by omega)]
  rfl
theorem tr_virt {j : Nat} {as : List mV} (he : mPg.1 k pc = some (.invokevirtual j, n, a, b, c)) (hq : isO q c) (hst : st[b]? = some (mP (some q))) (hm : mcall a (b + 1) st = some (.inr (.inl (a, as, r)))) (hk : Tr Ls N1 a 0 (mentry as (mPg.2.2.1 a)) [] σ (tK Ls N2 k pc L r post)) (hN : N1 + N2 ≤ N) : Tr Ls N k pc L st σ post := by
  refine tr_call he (fun h hr => ?_) hk hN
  simp only [mstep]
  rw [hst, if_pos (rep_obj hr hq)]
  exact hm
/-- facts of the state -/
theorem tr_fact (K : (∃ h, rep Ls h σ) → Tr Ls N k pc L st σ post) : Tr Ls N k pc L st σ post := fun h hr => K ⟨h, hr⟩ h hr
end TR
