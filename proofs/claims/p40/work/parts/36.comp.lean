/-! Arrays and rows with indexes in range; lists. -/
section AUX
variable {Ls N N1 N2 k pc n nn b c t a q : Nat} {L L0 : mLs} {st r as : List mV} {h h' : mH} {σ : Sg} {post : tP} {x y z x' y' i i' : Int} {xs ys : List Int} {e : mE}
theorem tr_ia2 {kd nn : Nat} (ex : m32 i = i') (hi : 0 ≤ i' ∧ i' < nn) (he : mPg.1 k pc = some e) (hs : ∀ h, mstep mPg.2.2.2.1 mPg.2.2.2.2 e pc L (mI i :: mP (some q) :: r) h = mrd h kd q i fun y => mnx (pc + n) L (mI y :: r) h) (hq : mShp[q]? = some (kd, nn)) (hq1 : 1 ≤ q) (h1 : rowC q = false) (h2 : ∀ j, mPtr q j = none) (K : Tr Ls N k (pc + n) L (mI (σ.2 q i'.toNat) :: r) σ post) : Tr Ls N k pc L (mI i :: mP (some q) :: r) σ post := by
  subst ex
  exact tr_ia hi he hs hq hq1 h1 h2 K
theorem tr_is2 {kd nn : Nat} (ex : m32 i = i') (hi : 0 ≤ i' ∧ i' < nn) (he : mPg.1 k pc = some e) (hs : ∀ h, mstep mPg.2.2.2.1 mPg.2.2.2.2 e pc L (mI x :: mI i :: mP (some q) :: r) h = mwr h kd q i x fun h' => mnx (pc + n) L r h') (hq : mShp[q]? = some (kd, nn)) (hq1 : 2 ≤ q) (h1 : rowC q = false) (h2 : ∀ j, mPtr q j = none) (K : Tr Ls N k (pc + n) L r (setF σ q i'.toNat x) post) : Tr Ls N k pc L (mI x :: mI i :: mP (some q) :: r) σ post := by
  subst ex
  exact tr_is hi he hs hq hq1 h1 h2 K
theorem tr_at2 {j : Nat} (ha : isRow a n) (ex : m32 i = i') (he : mPg.1 k pc = some (.invokevirtual j, 3, 95, 1, 8)) (hst : Nat.ble (r.map mcat).sum 8 = true) (K : Tr Ls N k (pc + 3) L (mI (rget (σ.1 a) i') :: r) σ post) : Tr Ls N k pc L (mI i :: mP (some a) :: r) σ post := by
  subst ex
  exact tr_at ha he hst K
theorem tr_set2 {j : Nat} (ha : isRow a n) (ex : m32 i = i') (hx : in32 x) (he : mPg.1 k pc = some (.invokevirtual j, 3, 96, 2, 8)) (hst : Nat.ble (r.map mcat).sum 8 = true) (K : Tr Ls N k (pc + 3) L r (setR σ a (rset (σ.1 a) i' x)) post) : Tr Ls N k pc L (mI x :: mI i :: mP (some a) :: r) σ post := by
  subst ex
  exact tr_set ha hx he hst K
theorem setR_same (σ : Sg) (a : Nat) (xs : List Int) : (setR σ a xs).1 a = xs := if_pos rfl
theorem setR_ne {b : Nat} (σ : Sg) (xs : List Int) (hb : b ≠ a) : (setR σ a xs).1 b = σ.1 b := if_neg hb
theorem setR_setR (σ : Sg) (a : Nat) (xs ys : List Int) : setR (setR σ a xs) a ys = setR σ a ys := by
  unfold setR
  refine Prod.ext (funext fun b => ?_) rfl
  dsimp only
  split <;> rfl
theorem rget_mid (h : i = xs.length) : rget (xs ++ x :: ys) i = x := by
  subst h
  unfold rget
  rw [if_pos (by simp; omega)]
  simp [List.getD_eq_getElem?_getD]
theorem rset_mid (h : i = xs.length) : rset (xs ++ x :: ys) i y = xs ++ y :: ys := by
  subst h
  unfold rset
  rw [if_pos (by simp; omega)]
  simp
theorem rput_lt (h : xs.length < n) : rput n xs x = xs ++ [x] := if_pos h
end AUX
/-! The class's table of composed signs, and what takes signs apart. -/
def bOf (σ : Sg) (s : Int) : Int := if 0 ≤ s ∧ s < 48 then σ.2 4 s.toNat else -1
def kOf (σ : Sg) (s : Int) : Int := if 0 ≤ s ∧ s < 48 then σ.2 5 s.toNat else -1
/-- a mark sinks in a row told backwards -/
def sink (m : Int) : List Int → List Int
  | [] => [m]
  | y :: ys => if isMrk m ∧ clsOf m < clsOf y then y :: sink m ys else m :: y :: ys
theorem clsOf_in (x : Int) : 0 ≤ clsOf x ∧ clsOf x ≤ 3 := by
  unfold clsOf
  split
  · split <;> omega
  · omega
theorem sink_len (m : Int) : ∀ ys, (sink m ys).length = ys.length + 1
  | [] => rfl
  | y :: ys => by
    unfold sink
    split
    · simp [sink_len m ys]
    · rfl
def sorted1 (xs : List Int) : List Int := (xs.foldl (fun p x => sink x p) []).reverse
/-- a sign taken apart, by the bases and marks -/
def apart1 (B M : Int → Int) (s : Int) : List Int :=
  let u := if B s ≠ -1 then B s else s
  (if B u ≠ -1 then [B u, M u] else [u]) ++ (if B s ≠ -1 then [M s] else [])
section COMP
variable {Ls N N1 N2 k pc n nn b c t a q : Nat} {L L0 : mLs} {st r as : List mV} {h h' : mH} {σ : Sg} {post : tP} {x y z x' y' i i' : Int} {xs ys : List Int} {e : mE}
theorem s_13 (K : post (.inl (some (mI (σ.2 3 2)))) σ) : Tr Ls N 13 0 [some (mP (some 3))] [] σ post := by
  repeat (first | refine tr_gr rfl ⟨by decide, rfl⟩ (by decide) rfl ?_ | refine tr_gi rfl (by decide) ⟨by decide, rfl⟩ (by decide) rfl rfl ?_ | refine tr_gr rfl (by assumption) (by decide) (by assumption) ?_ | refine tr_gi rfl (by decide) (by assumption) (by decide) (by assumption) (by assumption) ?_ | (refine tr_rem ?_ ?_ rfl ?_; omega; omega) | (refine tr_div ?_ ?_ rfl ?_; omega; omega) | refine tr_mv rfl (fun _ => rfl) ?_ | refine tr_ia2 (m32_of (by omega)) (by omega) rfl (fun _ => rfl) rfl (by decide) (by decide) (fun _ => rfl) ?_ | refine tr_size (by assumption) rfl rfl ?_ | refine tr_at2 (by assumption) (m32_of (by omega)) rfl rfl ?_)
  exact tr_ri rfl rfl K
theorem s_15 (hx : in32 x) (K : post (.inl (some (mI (bOf σ x)))) σ) : Tr Ls N 15 0 [some (mP (some 3)), some (mI x)] [] σ post := by
  unfold bOf at K
  repeat (first | refine tr_gr rfl ⟨by decide, rfl⟩ (by decide) rfl ?_ | refine tr_gi rfl (by decide) ⟨by decide, rfl⟩ (by decide) rfl rfl ?_ | refine tr_gr rfl (by assumption) (by decide) (by assumption) ?_ | refine tr_gi rfl (by decide) (by assumption) (by decide) (by assumption) (by assumption) ?_ | (refine tr_rem ?_ ?_ rfl ?_; omega; omega) | (refine tr_div ?_ ?_ rfl ?_; omega; omega) | refine tr_mv rfl (fun _ => rfl) ?_ | refine tr_ia2 (m32_of (by omega)) (by omega) rfl (fun _ => rfl) rfl (by decide) (by decide) (fun _ => rfl) ?_ | refine tr_size (by assumption) rfl rfl ?_ | refine tr_at2 (by assumption) (m32_of (by omega)) rfl rfl ?_)
  refine tr_if2 rfl (m32_of (by omega)) (fun c1 => ?_) (fun c1 => ?_)
  · repeat (first | refine tr_gr rfl ⟨by decide, rfl⟩ (by decide) rfl ?_ | refine tr_gi rfl (by decide) ⟨by decide, rfl⟩ (by decide) rfl rfl ?_ | refine tr_gr rfl (by assumption) (by decide) (by assumption) ?_ | refine tr_gi rfl (by decide) (by assumption) (by decide) (by assumption) (by assumption) ?_ | (refine tr_rem ?_ ?_ rfl ?_; omega; omega) | (refine tr_div ?_ ?_ rfl ?_; omega; omega) | refine tr_mv rfl (fun _ => rfl) ?_ | refine tr_ia2 (m32_of (by omega)) (by omega) rfl (fun _ => rfl) rfl (by decide) (by decide) (fun _ => rfl) ?_ | refine tr_size (by assumption) rfl rfl ?_ | refine tr_at2 (by assumption) (m32_of (by omega)) rfl rfl ?_)
    exact tr_ri rfl (by rw [if_neg (by omega)]) K
  · repeat (first | refine tr_gr rfl ⟨by decide, rfl⟩ (by decide) rfl ?_ | refine tr_gi rfl (by decide) ⟨by decide, rfl⟩ (by decide) rfl rfl ?_ | refine tr_gr rfl (by assumption) (by decide) (by assumption) ?_ | refine tr_gi rfl (by decide) (by assumption) (by decide) (by assumption) (by assumption) ?_ | (refine tr_rem ?_ ?_ rfl ?_; omega; omega) | (refine tr_div ?_ ?_ rfl ?_; omega; omega) | refine tr_mv rfl (fun _ => rfl) ?_ | refine tr_ia2 (m32_of (by omega)) (by omega) rfl (fun _ => rfl) rfl (by decide) (by decide) (fun _ => rfl) ?_ | refine tr_size (by assumption) rfl rfl ?_ | refine tr_at2 (by assumption) (m32_of (by omega)) rfl rfl ?_)
    refine tr_cmp2 rfl (m32_of (by omega)) (m32_of (by omega)) (fun c2 => ?_) (fun c2 => ?_)
    · repeat (first | refine tr_gr rfl ⟨by decide, rfl⟩ (by decide) rfl ?_ | refine tr_gi rfl (by decide) ⟨by decide, rfl⟩ (by decide) rfl rfl ?_ | refine tr_gr rfl (by assumption) (by decide) (by assumption) ?_ | refine tr_gi rfl (by decide) (by assumption) (by decide) (by assumption) (by assumption) ?_ | (refine tr_rem ?_ ?_ rfl ?_; omega; omega) | (refine tr_div ?_ ?_ rfl ?_; omega; omega) | refine tr_mv rfl (fun _ => rfl) ?_ | refine tr_ia2 (m32_of (by omega)) (by omega) rfl (fun _ => rfl) rfl (by decide) (by decide) (fun _ => rfl) ?_ | refine tr_size (by assumption) rfl rfl ?_ | refine tr_at2 (by assumption) (m32_of (by omega)) rfl rfl ?_)
      exact tr_ri rfl (by rw [if_neg (by omega)]) K
    · repeat (first | refine tr_gr rfl ⟨by decide, rfl⟩ (by decide) rfl ?_ | refine tr_gi rfl (by decide) ⟨by decide, rfl⟩ (by decide) rfl rfl ?_ | refine tr_gr rfl (by assumption) (by decide) (by assumption) ?_ | refine tr_gi rfl (by decide) (by assumption) (by decide) (by assumption) (by assumption) ?_ | (refine tr_rem ?_ ?_ rfl ?_; omega; omega) | (refine tr_div ?_ ?_ rfl ?_; omega; omega) | refine tr_mv rfl (fun _ => rfl) ?_ | refine tr_ia2 (m32_of (by omega)) (by omega) rfl (fun _ => rfl) rfl (by decide) (by decide) (fun _ => rfl) ?_ | refine tr_size (by assumption) rfl rfl ?_ | refine tr_at2 (by assumption) (m32_of (by omega)) rfl rfl ?_)
      exact tr_ri rfl (by rw [if_pos (by omega)]) K
theorem s_16 (hx : in32 x) (K : post (.inl (some (mI (kOf σ x)))) σ) : Tr Ls N 16 0 [some (mP (some 3)), some (mI x)] [] σ post := by
  unfold kOf at K
  repeat (first | refine tr_gr rfl ⟨by decide, rfl⟩ (by decide) rfl ?_ | refine tr_gi rfl (by decide) ⟨by decide, rfl⟩ (by decide) rfl rfl ?_ | refine tr_gr rfl (by assumption) (by decide) (by assumption) ?_ | refine tr_gi rfl (by decide) (by assumption) (by decide) (by assumption) (by assumption) ?_ | (refine tr_rem ?_ ?_ rfl ?_; omega; omega) | (refine tr_div ?_ ?_ rfl ?_; omega; omega) | refine tr_mv rfl (fun _ => rfl) ?_ | refine tr_ia2 (m32_of (by omega)) (by omega) rfl (fun _ => rfl) rfl (by decide) (by decide) (fun _ => rfl) ?_ | refine tr_size (by assumption) rfl rfl ?_ | refine tr_at2 (by assumption) (m32_of (by omega)) rfl rfl ?_)
  refine tr_if2 rfl (m32_of (by omega)) (fun c1 => ?_) (fun c1 => ?_)
  · repeat (first | refine tr_gr rfl ⟨by decide, rfl⟩ (by decide) rfl ?_ | refine tr_gi rfl (by decide) ⟨by decide, rfl⟩ (by decide) rfl rfl ?_ | refine tr_gr rfl (by assumption) (by decide) (by assumption) ?_ | refine tr_gi rfl (by decide) (by assumption) (by decide) (by assumption) (by assumption) ?_ | (refine tr_rem ?_ ?_ rfl ?_; omega; omega) | (refine tr_div ?_ ?_ rfl ?_; omega; omega) | refine tr_mv rfl (fun _ => rfl) ?_ | refine tr_ia2 (m32_of (by omega)) (by omega) rfl (fun _ => rfl) rfl (by decide) (by decide) (fun _ => rfl) ?_ | refine tr_size (by assumption) rfl rfl ?_ | refine tr_at2 (by assumption) (m32_of (by omega)) rfl rfl ?_)
    exact tr_ri rfl (by rw [if_neg (by omega)]) K
  · repeat (first | refine tr_gr rfl ⟨by decide, rfl⟩ (by decide) rfl ?_ | refine tr_gi rfl (by decide) ⟨by decide, rfl⟩ (by decide) rfl rfl ?_ | refine tr_gr rfl (by assumption) (by decide) (by assumption) ?_ | refine tr_gi rfl (by decide) (by assumption) (by decide) (by assumption) (by assumption) ?_ | (refine tr_rem ?_ ?_ rfl ?_; omega; omega) | (refine tr_div ?_ ?_ rfl ?_; omega; omega) | refine tr_mv rfl (fun _ => rfl) ?_ | refine tr_ia2 (m32_of (by omega)) (by omega) rfl (fun _ => rfl) rfl (by decide) (by decide) (fun _ => rfl) ?_ | refine tr_size (by assumption) rfl rfl ?_ | refine tr_at2 (by assumption) (m32_of (by omega)) rfl rfl ?_)
    refine tr_cmp2 rfl (m32_of (by omega)) (m32_of (by omega)) (fun c2 => ?_) (fun c2 => ?_)
    · repeat (first | refine tr_gr rfl ⟨by decide, rfl⟩ (by decide) rfl ?_ | refine tr_gi rfl (by decide) ⟨by decide, rfl⟩ (by decide) rfl rfl ?_ | refine tr_gr rfl (by assumption) (by decide) (by assumption) ?_ | refine tr_gi rfl (by decide) (by assumption) (by decide) (by assumption) (by assumption) ?_ | (refine tr_rem ?_ ?_ rfl ?_; omega; omega) | (refine tr_div ?_ ?_ rfl ?_; omega; omega) | refine tr_mv rfl (fun _ => rfl) ?_ | refine tr_ia2 (m32_of (by omega)) (by omega) rfl (fun _ => rfl) rfl (by decide) (by decide) (fun _ => rfl) ?_ | refine tr_size (by assumption) rfl rfl ?_ | refine tr_at2 (by assumption) (m32_of (by omega)) rfl rfl ?_)
      exact tr_ri rfl (by rw [if_neg (by omega)]) K
    · repeat (first | refine tr_gr rfl ⟨by decide, rfl⟩ (by decide) rfl ?_ | refine tr_gi rfl (by decide) ⟨by decide, rfl⟩ (by decide) rfl rfl ?_ | refine tr_gr rfl (by assumption) (by decide) (by assumption) ?_ | refine tr_gi rfl (by decide) (by assumption) (by decide) (by assumption) (by assumption) ?_ | (refine tr_rem ?_ ?_ rfl ?_; omega; omega) | (refine tr_div ?_ ?_ rfl ?_; omega; omega) | refine tr_mv rfl (fun _ => rfl) ?_ | refine tr_ia2 (m32_of (by omega)) (by omega) rfl (fun _ => rfl) rfl (by decide) (by decide) (fun _ => rfl) ?_ | refine tr_size (by assumption) rfl rfl ?_ | refine tr_at2 (by assumption) (m32_of (by omega)) rfl rfl ?_)
      exact tr_ri rfl (by rw [if_pos (by omega)]) K
theorem s_14 (hx : in32 x) (hb : in32 (bOf σ x)) (K : post (.inl (some (mI (b2 (bOf σ x ≠ -1))))) σ) : Tr Ls N 14 0 [some (mP (some 3)), some (mI x)] [] σ post := by
  repeat (first | refine tr_gr rfl ⟨by decide, rfl⟩ (by decide) rfl ?_ | refine tr_gi rfl (by decide) ⟨by decide, rfl⟩ (by decide) rfl rfl ?_ | refine tr_gr rfl (by assumption) (by decide) (by assumption) ?_ | refine tr_gi rfl (by decide) (by assumption) (by decide) (by assumption) (by assumption) ?_ | (refine tr_rem ?_ ?_ rfl ?_; omega; omega) | (refine tr_div ?_ ?_ rfl ?_; omega; omega) | refine tr_mv rfl (fun _ => rfl) ?_ | refine tr_ia2 (m32_of (by omega)) (by omega) rfl (fun _ => rfl) rfl (by decide) (by decide) (fun _ => rfl) ?_ | refine tr_size (by assumption) rfl rfl ?_ | refine tr_at2 (by assumption) (m32_of (by omega)) rfl rfl ?_)
  refine tr_vc (q := 3) rfl ⟨by decide, rfl⟩ rfl rfl rfl (s_15 hx ?_)
  repeat (first | refine tr_gr rfl ⟨by decide, rfl⟩ (by decide) rfl ?_ | refine tr_gi rfl (by decide) ⟨by decide, rfl⟩ (by decide) rfl rfl ?_ | refine tr_gr rfl (by assumption) (by decide) (by assumption) ?_ | refine tr_gi rfl (by decide) (by assumption) (by decide) (by assumption) (by assumption) ?_ | (refine tr_rem ?_ ?_ rfl ?_; omega; omega) | (refine tr_div ?_ ?_ rfl ?_; omega; omega) | refine tr_mv rfl (fun _ => rfl) ?_ | refine tr_ia2 (m32_of (by omega)) (by omega) rfl (fun _ => rfl) rfl (by decide) (by decide) (fun _ => rfl) ?_ | refine tr_size (by assumption) rfl rfl ?_ | refine tr_at2 (by assumption) (m32_of (by omega)) rfl rfl ?_)
  refine tr_cmp2 rfl (m32_of (by omega)) (m32_of (by omega)) (fun c1 => ?_) (fun c1 => ?_)
  · repeat (first | refine tr_gr rfl ⟨by decide, rfl⟩ (by decide) rfl ?_ | refine tr_gi rfl (by decide) ⟨by decide, rfl⟩ (by decide) rfl rfl ?_ | refine tr_gr rfl (by assumption) (by decide) (by assumption) ?_ | refine tr_gi rfl (by decide) (by assumption) (by decide) (by assumption) (by assumption) ?_ | (refine tr_rem ?_ ?_ rfl ?_; omega; omega) | (refine tr_div ?_ ?_ rfl ?_; omega; omega) | refine tr_mv rfl (fun _ => rfl) ?_ | refine tr_ia2 (m32_of (by omega)) (by omega) rfl (fun _ => rfl) rfl (by decide) (by decide) (fun _ => rfl) ?_ | refine tr_size (by assumption) rfl rfl ?_ | refine tr_at2 (by assumption) (m32_of (by omega)) rfl rfl ?_)
    exact tr_rb0 rfl (by omega) K
  · repeat (first | refine tr_gr rfl ⟨by decide, rfl⟩ (by decide) rfl ?_ | refine tr_gi rfl (by decide) ⟨by decide, rfl⟩ (by decide) rfl rfl ?_ | refine tr_gr rfl (by assumption) (by decide) (by assumption) ?_ | refine tr_gi rfl (by decide) (by assumption) (by decide) (by assumption) (by assumption) ?_ | (refine tr_rem ?_ ?_ rfl ?_; omega; omega) | (refine tr_div ?_ ?_ rfl ?_; omega; omega) | refine tr_mv rfl (fun _ => rfl) ?_ | refine tr_ia2 (m32_of (by omega)) (by omega) rfl (fun _ => rfl) rfl (by decide) (by decide) (fun _ => rfl) ?_ | refine tr_size (by assumption) rfl rfl ?_ | refine tr_at2 (by assumption) (m32_of (by omega)) rfl rfl ?_)
    exact tr_rb1 rfl (by omega) K
theorem s_17 (hx : in32 x) (hb : in32 (bOf σ x)) (K : post (.inl (some (mI (b2 (isLet x ∨ isLet (bOf σ x)))))) σ) : Tr Ls N 17 0 [some (mP (some 3)), some (mI x)] [] σ post := by
  repeat (first | refine tr_gr rfl ⟨by decide, rfl⟩ (by decide) rfl ?_ | refine tr_gi rfl (by decide) ⟨by decide, rfl⟩ (by decide) rfl rfl ?_ | refine tr_gr rfl (by assumption) (by decide) (by assumption) ?_ | refine tr_gi rfl (by decide) (by assumption) (by decide) (by assumption) (by assumption) ?_ | (refine tr_rem ?_ ?_ rfl ?_; omega; omega) | (refine tr_div ?_ ?_ rfl ?_; omega; omega) | refine tr_mv rfl (fun _ => rfl) ?_ | refine tr_ia2 (m32_of (by omega)) (by omega) rfl (fun _ => rfl) rfl (by decide) (by decide) (fun _ => rfl) ?_ | refine tr_size (by assumption) rfl rfl ?_ | refine tr_at2 (by assumption) (m32_of (by omega)) rfl rfl ?_)
  refine tr_stat rfl rfl rfl (s_178 hx ?_)
  first | refine tr_ib rfl (fun c1 => ?_) (fun c1 => ?_) | refine tr_ibn rfl (fun c1 => ?_) (fun c1 => ?_)
  · repeat (first | refine tr_gr rfl ⟨by decide, rfl⟩ (by decide) rfl ?_ | refine tr_gi rfl (by decide) ⟨by decide, rfl⟩ (by decide) rfl rfl ?_ | refine tr_gr rfl (by assumption) (by decide) (by assumption) ?_ | refine tr_gi rfl (by decide) (by assumption) (by decide) (by assumption) (by assumption) ?_ | (refine tr_rem ?_ ?_ rfl ?_; omega; omega) | (refine tr_div ?_ ?_ rfl ?_; omega; omega) | refine tr_mv rfl (fun _ => rfl) ?_ | refine tr_ia2 (m32_of (by omega)) (by omega) rfl (fun _ => rfl) rfl (by decide) (by decide) (fun _ => rfl) ?_ | refine tr_size (by assumption) rfl rfl ?_ | refine tr_at2 (by assumption) (m32_of (by omega)) rfl rfl ?_)
    exact tr_rb1 rfl (Or.inl c1) K
  · repeat (first | refine tr_gr rfl ⟨by decide, rfl⟩ (by decide) rfl ?_ | refine tr_gi rfl (by decide) ⟨by decide, rfl⟩ (by decide) rfl rfl ?_ | refine tr_gr rfl (by assumption) (by decide) (by assumption) ?_ | refine tr_gi rfl (by decide) (by assumption) (by decide) (by assumption) (by assumption) ?_ | (refine tr_rem ?_ ?_ rfl ?_; omega; omega) | (refine tr_div ?_ ?_ rfl ?_; omega; omega) | refine tr_mv rfl (fun _ => rfl) ?_ | refine tr_ia2 (m32_of (by omega)) (by omega) rfl (fun _ => rfl) rfl (by decide) (by decide) (fun _ => rfl) ?_ | refine tr_size (by assumption) rfl rfl ?_ | refine tr_at2 (by assumption) (m32_of (by omega)) rfl rfl ?_)
    refine tr_vc (q := 3) rfl ⟨by decide, rfl⟩ rfl rfl rfl (s_15 hx ?_)
    refine tr_stat rfl rfl rfl (s_178 hb ?_)
    first | refine tr_ib rfl (fun c2 => ?_) (fun c2 => ?_) | refine tr_ibn rfl (fun c2 => ?_) (fun c2 => ?_)
    · repeat (first | refine tr_gr rfl ⟨by decide, rfl⟩ (by decide) rfl ?_ | refine tr_gi rfl (by decide) ⟨by decide, rfl⟩ (by decide) rfl rfl ?_ | refine tr_gr rfl (by assumption) (by decide) (by assumption) ?_ | refine tr_gi rfl (by decide) (by assumption) (by decide) (by assumption) (by assumption) ?_ | (refine tr_rem ?_ ?_ rfl ?_; omega; omega) | (refine tr_div ?_ ?_ rfl ?_; omega; omega) | refine tr_mv rfl (fun _ => rfl) ?_ | refine tr_ia2 (m32_of (by omega)) (by omega) rfl (fun _ => rfl) rfl (by decide) (by decide) (fun _ => rfl) ?_ | refine tr_size (by assumption) rfl rfl ?_ | refine tr_at2 (by assumption) (m32_of (by omega)) rfl rfl ?_)
      exact tr_rb0 rfl (by omega) K
    · repeat (first | refine tr_gr rfl ⟨by decide, rfl⟩ (by decide) rfl ?_ | refine tr_gi rfl (by decide) ⟨by decide, rfl⟩ (by decide) rfl rfl ?_ | refine tr_gr rfl (by assumption) (by decide) (by assumption) ?_ | refine tr_gi rfl (by decide) (by assumption) (by decide) (by assumption) (by assumption) ?_ | (refine tr_rem ?_ ?_ rfl ?_; omega; omega) | (refine tr_div ?_ ?_ rfl ?_; omega; omega) | refine tr_mv rfl (fun _ => rfl) ?_ | refine tr_ia2 (m32_of (by omega)) (by omega) rfl (fun _ => rfl) rfl (by decide) (by decide) (fun _ => rfl) ?_ | refine tr_size (by assumption) rfl rfl ?_ | refine tr_at2 (by assumption) (m32_of (by omega)) rfl rfl ?_)
      exact tr_rb1 rfl (Or.inr c2) K
theorem s_22_loop (ha : isRow b n) (hin : ∀ σ : Sg, (∃ h, rep Ls h σ) → ∀ x ∈ σ.1 b, in32 x) (from' m : Int) (hm : in32 m) (post0 : List Int) (hpost : post0.length < 2000000) : ∀ (p q : List Int) (j : Int) (σ : Sg), p.length + q.length < 1000000 → (∀ y ∈ p, in32 y) → σ.1 b = p.reverse ++ j :: (q ++ post0) → post (.inl none) (setR σ b ((sink m p).reverse ++ (q ++ post0))) →
    Tr Ls N 22 8 [some (mP (some b)), some (mI from'), some (mI m), some (mI (p.length : Int))] [] σ post := by
  intro p
  induction p with
  | nil =>
    intro q j σ hl hp hs K
    repeat (first | refine tr_gr rfl ⟨by decide, rfl⟩ (by decide) rfl ?_ | refine tr_gi rfl (by decide) ⟨by decide, rfl⟩ (by decide) rfl rfl ?_ | refine tr_gr rfl (by assumption) (by decide) (by assumption) ?_ | refine tr_gi rfl (by decide) (by assumption) (by decide) (by assumption) (by assumption) ?_ | (refine tr_rem ?_ ?_ rfl ?_; omega; omega) | (refine tr_div ?_ ?_ rfl ?_; omega; omega) | refine tr_mv rfl (fun _ => rfl) ?_ | refine tr_ia2 (m32_of (by omega)) (by omega) rfl (fun _ => rfl) rfl (by decide) (by decide) (fun _ => rfl) ?_ | refine tr_size (by assumption) rfl rfl ?_ | refine tr_at2 (by assumption) (m32_of (by omega)) rfl rfl ?_)
    refine tr_set2 ha (m32_of (x := 0) ⟨by decide, by decide⟩) hm rfl rfl ?_
    rw [hs, rset_mid (by simp)]
    exact tr_ret rfl (fun _ => rfl) K
  | cons y ys ih =>
    intro q j σ hl hp hs K
    have hy : in32 y := hp y List.mem_cons_self
    have hcy := clsOf_in y
    have hcm := clsOf_in m
    have hl' : (y :: ys).length = ys.length + 1 := rfl
    have hfin : ∀ post', post' (.inl none) (setR σ b ((m :: y :: ys).reverse ++ (q ++ post0))) → Tr Ls N 22 54 [some (mP (some b)), some (mI from'), some (mI m), some (mI ((y :: ys).length : Int))] [] σ post' := by
      intro post' K'
      repeat (first | refine tr_gr rfl ⟨by decide, rfl⟩ (by decide) rfl ?_ | refine tr_gi rfl (by decide) ⟨by decide, rfl⟩ (by decide) rfl rfl ?_ | refine tr_gr rfl (by assumption) (by decide) (by assumption) ?_ | refine tr_gi rfl (by decide) (by assumption) (by decide) (by assumption) (by assumption) ?_ | (refine tr_rem ?_ ?_ rfl ?_; omega; omega) | (refine tr_div ?_ ?_ rfl ?_; omega; omega) | refine tr_mv rfl (fun _ => rfl) ?_ | refine tr_ia2 (m32_of (by omega)) (by omega) rfl (fun _ => rfl) rfl (by decide) (by decide) (fun _ => rfl) ?_ | refine tr_size (by assumption) rfl rfl ?_ | refine tr_at2 (by assumption) (m32_of (by omega)) rfl rfl ?_)
      refine tr_set2 ha (m32_of (by omega)) hm rfl rfl ?_
      rw [hs, rset_mid (by simp)]
      refine tr_ret rfl (fun _ => rfl) ?_
      simpa using K'
    unfold sink at K
    repeat (first | refine tr_gr rfl ⟨by decide, rfl⟩ (by decide) rfl ?_ | refine tr_gi rfl (by decide) ⟨by decide, rfl⟩ (by decide) rfl rfl ?_ | refine tr_gr rfl (by assumption) (by decide) (by assumption) ?_ | refine tr_gi rfl (by decide) (by assumption) (by decide) (by assumption) (by assumption) ?_ | (refine tr_rem ?_ ?_ rfl ?_; omega; omega) | (refine tr_div ?_ ?_ rfl ?_; omega; omega) | refine tr_mv rfl (fun _ => rfl) ?_ | refine tr_ia2 (m32_of (by omega)) (by omega) rfl (fun _ => rfl) rfl (by decide) (by decide) (fun _ => rfl) ?_ | refine tr_size (by assumption) rfl rfl ?_ | refine tr_at2 (by assumption) (m32_of (by omega)) rfl rfl ?_)
    refine tr_if2 rfl (m32_of (by omega)) (fun c1 => absurd c1 (by show ¬ _ ≤ _; omega)) (fun c1 => ?_)
    repeat (first | refine tr_gr rfl ⟨by decide, rfl⟩ (by decide) rfl ?_ | refine tr_gi rfl (by decide) ⟨by decide, rfl⟩ (by decide) rfl rfl ?_ | refine tr_gr rfl (by assumption) (by decide) (by assumption) ?_ | refine tr_gi rfl (by decide) (by assumption) (by decide) (by assumption) (by assumption) ?_ | (refine tr_rem ?_ ?_ rfl ?_; omega; omega) | (refine tr_div ?_ ?_ rfl ?_; omega; omega) | refine tr_mv rfl (fun _ => rfl) ?_ | refine tr_ia2 (m32_of (by omega)) (by omega) rfl (fun _ => rfl) rfl (by decide) (by decide) (fun _ => rfl) ?_ | refine tr_size (by assumption) rfl rfl ?_ | refine tr_at2 (by assumption) (m32_of (by omega)) rfl rfl ?_)
    refine tr_stat rfl rfl rfl (s_179 hm ?_)
    first | refine tr_ib rfl (fun c2 => ?_) (fun c2 => ?_) | refine tr_ibn rfl (fun c2 => ?_) (fun c2 => ?_)
    · rw [if_neg (fun g => c2 g.1)] at K
      exact hfin _ K
    · repeat (first | refine tr_gr rfl ⟨by decide, rfl⟩ (by decide) rfl ?_ | refine tr_gi rfl (by decide) ⟨by decide, rfl⟩ (by decide) rfl rfl ?_ | refine tr_gr rfl (by assumption) (by decide) (by assumption) ?_ | refine tr_gi rfl (by decide) (by assumption) (by decide) (by assumption) (by assumption) ?_ | (refine tr_rem ?_ ?_ rfl ?_; omega; omega) | (refine tr_div ?_ ?_ rfl ?_; omega; omega) | refine tr_mv rfl (fun _ => rfl) ?_ | refine tr_ia2 (m32_of (by omega)) (by omega) rfl (fun _ => rfl) rfl (by decide) (by decide) (fun _ => rfl) ?_ | refine tr_size (by assumption) rfl rfl ?_ | refine tr_at2 (by assumption) (m32_of (by omega)) rfl rfl ?_)
      rw [hs, show (((y :: ys).length : Nat) : Int) - 1 = (ys.length : Int) by omega, show (y :: ys).reverse ++ j :: (q ++ post0) = ys.reverse ++ y :: (j :: (q ++ post0)) by simp, rget_mid (by simp)]
      refine tr_stat rfl rfl rfl (s_182 hy ?_)
      repeat (first | refine tr_gr rfl ⟨by decide, rfl⟩ (by decide) rfl ?_ | refine tr_gi rfl (by decide) ⟨by decide, rfl⟩ (by decide) rfl rfl ?_ | refine tr_gr rfl (by assumption) (by decide) (by assumption) ?_ | refine tr_gi rfl (by decide) (by assumption) (by decide) (by assumption) (by assumption) ?_ | (refine tr_rem ?_ ?_ rfl ?_; omega; omega) | (refine tr_div ?_ ?_ rfl ?_; omega; omega) | refine tr_mv rfl (fun _ => rfl) ?_ | refine tr_ia2 (m32_of (by omega)) (by omega) rfl (fun _ => rfl) rfl (by decide) (by decide) (fun _ => rfl) ?_ | refine tr_size (by assumption) rfl rfl ?_ | refine tr_at2 (by assumption) (m32_of (by omega)) rfl rfl ?_)
      refine tr_stat rfl rfl rfl (s_182 hm ?_)
      refine tr_cmp2 rfl (m32_of (by omega)) (m32_of (by omega)) (fun c3 => ?_) (fun c3 => ?_)
      · rw [if_neg (by omega)] at K
        exact hfin _ K
      · rw [if_pos (by omega)] at K
        repeat (first | refine tr_gr rfl ⟨by decide, rfl⟩ (by decide) rfl ?_ | refine tr_gi rfl (by decide) ⟨by decide, rfl⟩ (by decide) rfl rfl ?_ | refine tr_gr rfl (by assumption) (by decide) (by assumption) ?_ | refine tr_gi rfl (by decide) (by assumption) (by decide) (by assumption) (by assumption) ?_ | (refine tr_rem ?_ ?_ rfl ?_; omega; omega) | (refine tr_div ?_ ?_ rfl ?_; omega; omega) | refine tr_mv rfl (fun _ => rfl) ?_ | refine tr_ia2 (m32_of (by omega)) (by omega) rfl (fun _ => rfl) rfl (by decide) (by decide) (fun _ => rfl) ?_ | refine tr_size (by assumption) rfl rfl ?_ | refine tr_at2 (by assumption) (m32_of (by omega)) rfl rfl ?_)
        rw [hs, show (((y :: ys).length : Nat) : Int) - 1 = (ys.length : Int) by omega, show (y :: ys).reverse ++ j :: (q ++ post0) = ys.reverse ++ y :: (j :: (q ++ post0)) by simp, rget_mid (by simp)]
        refine tr_set2 ha (m32_of (by omega)) hy rfl rfl ?_
        rw [show σ.1 b = (ys.reverse ++ [y]) ++ j :: (q ++ post0) by rw [hs]; simp, rset_mid (by simp)]
        iterate 2 (refine tr_mv rfl (fun _ => rfl) ?_)
        show Tr Ls N 22 8 [some (mP (some b)), some (mI from'), some (mI m), some (mI (((y :: ys).length : Int) + -1))] [] _ post
        rw [show (((y :: ys).length : Nat) : Int) + -1 = (ys.length : Int) by omega]
        refine ih (y :: q) y _ (by simp at hl ⊢; omega) (fun z hz => hp z (List.mem_cons_of_mem _ hz)) (by rw [setR_same]; simp) ?_
        rw [setR_setR]
        simpa using K
/-- sinkMark at the place i: of a row whose places below are p backwards -/
theorem s_22 (ha : isRow b n) (p : List Int) (m : Int) (post0 : List Int) (hl : p.length + post0.length < 100000) (hs : σ.1 b = p.reverse ++ m :: post0) (hi : i = (p.length : Int)) (K : post (.inl none) (setR σ b ((sink m p).reverse ++ post0))) :
    Tr Ls N 22 0 [some (mP (some b)), some (mI i), none, none] [] σ post := by
  subst hi
  refine tr_fact fun ⟨h0, hr⟩ => ?_
  have hin : ∀ x ∈ σ.1 b, in32 x := rep_in hr ha
  have hm : in32 m := hin m (by rw [hs]; simp)
  iterate 2 (refine tr_mv rfl (fun _ => rfl) ?_)
  refine tr_at2 ha (m32_of (by omega)) rfl rfl ?_
  rw [hs, rget_mid (by simp)]
  iterate 3 (refine tr_mv rfl (fun _ => rfl) ?_)
  exact s_22_loop ha (fun σ' ⟨h', hr'⟩ => rep_in hr' ha) _ m hm post0 (by omega) p [] m σ (by simp; omega) (fun y hy => hin y (by rw [hs]; simp [hy])) (by simpa using hs) (by simpa using K)
theorem s_21 {B M : Int → Int} (hB : ∀ s, in32 s → bOf σ s = B s) (hM : ∀ s, in32 s → kOf σ s = M s) (hBi : ∀ s, in32 (B s)) (hMi : ∀ s, in32 (M s)) (ha : isRow b n) (hx : in32 x) (hn : (σ.1 b).length + 3 ≤ n) (K : post (.inl none) (setR σ b (σ.1 b ++ apart1 B M x))) :
    Tr Ls N 21 0 [some (mP (some 3)), some (mI x), some (mP (some b)), none] [] σ post := by
  unfold apart1 at K
  dsimp only at K
  have hbx : bOf σ x = B x := hB x hx
  have hMx : kOf σ x = M x := hM x hx
  have key : ∀ u, in32 u → u = (if B x ≠ -1 then B x else x) → Tr Ls N 21 18 [some (mP (some 3)), some (mI x), some (mP (some b)), some (mI u)] [] σ post := by
    intro u hu e
    rw [← e] at K
    have hbu : bOf σ u = B u := hB u hu
    have hMu : kOf σ u = M u := hM u hu
    have tl : ∀ σ' : Sg, σ'.2 = σ.2 → (σ'.1 b).length + 1 ≤ n → post (.inl none) (setR σ' b (σ'.1 b ++ if B x ≠ -1 then [M x] else [])) → Tr Ls N 21 56 [some (mP (some 3)), some (mI x), some (mP (some b)), some (mI u)] [] σ' post := by
      intro σ' e2 hl K'
      have hbx' : bOf σ' x = B x := by rw [← hbx]; unfold bOf; rw [e2]
      have hMx' : kOf σ' x = M x := by rw [← hMx]; unfold kOf; rw [e2]
      repeat (first | refine tr_gr rfl ⟨by decide, rfl⟩ (by decide) rfl ?_ | refine tr_gi rfl (by decide) ⟨by decide, rfl⟩ (by decide) rfl rfl ?_ | refine tr_gr rfl (by assumption) (by decide) (by assumption) ?_ | refine tr_gi rfl (by decide) (by assumption) (by decide) (by assumption) (by assumption) ?_ | (refine tr_rem ?_ ?_ rfl ?_; omega; omega) | (refine tr_div ?_ ?_ rfl ?_; omega; omega) | refine tr_mv rfl (fun _ => rfl) ?_ | refine tr_ia2 (m32_of (by omega)) (by omega) rfl (fun _ => rfl) rfl (by decide) (by decide) (fun _ => rfl) ?_ | refine tr_size (by assumption) rfl rfl ?_ | refine tr_at2 (by assumption) (m32_of (by omega)) rfl rfl ?_)
      refine tr_vc (q := 3) rfl ⟨by decide, rfl⟩ rfl rfl rfl (s_14 hx (by rw [hbx']; exact hBi x) ?_)
      first | refine tr_ib rfl (fun c1 => ?_) (fun c1 => ?_) | refine tr_ibn rfl (fun c1 => ?_) (fun c1 => ?_)
      · rw [hbx'] at c1
        rw [if_neg c1, List.append_nil, setR_self] at K'
        exact tr_ret rfl (fun _ => rfl) K'
      · rw [hbx'] at c1
        rw [if_pos c1] at K'
        repeat (first | refine tr_gr rfl ⟨by decide, rfl⟩ (by decide) rfl ?_ | refine tr_gi rfl (by decide) ⟨by decide, rfl⟩ (by decide) rfl rfl ?_ | refine tr_gr rfl (by assumption) (by decide) (by assumption) ?_ | refine tr_gi rfl (by decide) (by assumption) (by decide) (by assumption) (by assumption) ?_ | (refine tr_rem ?_ ?_ rfl ?_; omega; omega) | (refine tr_div ?_ ?_ rfl ?_; omega; omega) | refine tr_mv rfl (fun _ => rfl) ?_ | refine tr_ia2 (m32_of (by omega)) (by omega) rfl (fun _ => rfl) rfl (by decide) (by decide) (fun _ => rfl) ?_ | refine tr_size (by assumption) rfl rfl ?_ | refine tr_at2 (by assumption) (m32_of (by omega)) rfl rfl ?_)
        refine tr_vc (q := 3) rfl ⟨by decide, rfl⟩ rfl rfl rfl (s_16 hx ?_)
        refine tr_put ha (by rw [hMx']; exact hMi x) rfl rfl ?_
        rw [rput_lt (by omega), hMx']
        exact tr_ret rfl (fun _ => rfl) K'
    repeat (first | refine tr_gr rfl ⟨by decide, rfl⟩ (by decide) rfl ?_ | refine tr_gi rfl (by decide) ⟨by decide, rfl⟩ (by decide) rfl rfl ?_ | refine tr_gr rfl (by assumption) (by decide) (by assumption) ?_ | refine tr_gi rfl (by decide) (by assumption) (by decide) (by assumption) (by assumption) ?_ | (refine tr_rem ?_ ?_ rfl ?_; omega; omega) | (refine tr_div ?_ ?_ rfl ?_; omega; omega) | refine tr_mv rfl (fun _ => rfl) ?_ | refine tr_ia2 (m32_of (by omega)) (by omega) rfl (fun _ => rfl) rfl (by decide) (by decide) (fun _ => rfl) ?_ | refine tr_size (by assumption) rfl rfl ?_ | refine tr_at2 (by assumption) (m32_of (by omega)) rfl rfl ?_)
    refine tr_vc (q := 3) rfl ⟨by decide, rfl⟩ rfl rfl rfl (s_14 hu (by rw [hbu]; exact hBi u) ?_)
    first | refine tr_ib rfl (fun c1 => ?_) (fun c1 => ?_) | refine tr_ibn rfl (fun c1 => ?_) (fun c1 => ?_)
    · rw [hbu] at c1
      rw [if_neg c1] at K
      repeat (first | refine tr_gr rfl ⟨by decide, rfl⟩ (by decide) rfl ?_ | refine tr_gi rfl (by decide) ⟨by decide, rfl⟩ (by decide) rfl rfl ?_ | refine tr_gr rfl (by assumption) (by decide) (by assumption) ?_ | refine tr_gi rfl (by decide) (by assumption) (by decide) (by assumption) (by assumption) ?_ | (refine tr_rem ?_ ?_ rfl ?_; omega; omega) | (refine tr_div ?_ ?_ rfl ?_; omega; omega) | refine tr_mv rfl (fun _ => rfl) ?_ | refine tr_ia2 (m32_of (by omega)) (by omega) rfl (fun _ => rfl) rfl (by decide) (by decide) (fun _ => rfl) ?_ | refine tr_size (by assumption) rfl rfl ?_ | refine tr_at2 (by assumption) (m32_of (by omega)) rfl rfl ?_)
      refine tr_put ha hu rfl rfl ?_
      rw [rput_lt (by omega)]
      repeat (first | refine tr_gr rfl ⟨by decide, rfl⟩ (by decide) rfl ?_ | refine tr_gi rfl (by decide) ⟨by decide, rfl⟩ (by decide) rfl rfl ?_ | refine tr_gr rfl (by assumption) (by decide) (by assumption) ?_ | refine tr_gi rfl (by decide) (by assumption) (by decide) (by assumption) (by assumption) ?_ | (refine tr_rem ?_ ?_ rfl ?_; omega; omega) | (refine tr_div ?_ ?_ rfl ?_; omega; omega) | refine tr_mv rfl (fun _ => rfl) ?_ | refine tr_ia2 (m32_of (by omega)) (by omega) rfl (fun _ => rfl) rfl (by decide) (by decide) (fun _ => rfl) ?_ | refine tr_size (by assumption) rfl rfl ?_ | refine tr_at2 (by assumption) (m32_of (by omega)) rfl rfl ?_)
      refine tr_vc (q := 3) rfl ⟨by decide, rfl⟩ rfl rfl rfl (s_14 hu (by show in32 (bOf σ u); rw [hbu]; exact hBi u) ?_)
      first | refine tr_ib rfl (fun c2 => ?_) (fun c2 => ?_) | refine tr_ibn rfl (fun c2 => ?_) (fun c2 => ?_)
      · refine tl _ rfl (by rw [setR_same]; simp; omega) ?_
        rw [setR_same, setR_setR]
        simpa using K
      · exact absurd (show bOf σ u ≠ -1 from c2) (by rw [hbu]; exact c1)
    · rw [hbu] at c1
      rw [if_pos c1] at K
      repeat (first | refine tr_gr rfl ⟨by decide, rfl⟩ (by decide) rfl ?_ | refine tr_gi rfl (by decide) ⟨by decide, rfl⟩ (by decide) rfl rfl ?_ | refine tr_gr rfl (by assumption) (by decide) (by assumption) ?_ | refine tr_gi rfl (by decide) (by assumption) (by decide) (by assumption) (by assumption) ?_ | (refine tr_rem ?_ ?_ rfl ?_; omega; omega) | (refine tr_div ?_ ?_ rfl ?_; omega; omega) | refine tr_mv rfl (fun _ => rfl) ?_ | refine tr_ia2 (m32_of (by omega)) (by omega) rfl (fun _ => rfl) rfl (by decide) (by decide) (fun _ => rfl) ?_ | refine tr_size (by assumption) rfl rfl ?_ | refine tr_at2 (by assumption) (m32_of (by omega)) rfl rfl ?_)
      refine tr_vc (q := 3) rfl ⟨by decide, rfl⟩ rfl rfl rfl (s_15 hu ?_)
      repeat (first | refine tr_gr rfl ⟨by decide, rfl⟩ (by decide) rfl ?_ | refine tr_gi rfl (by decide) ⟨by decide, rfl⟩ (by decide) rfl rfl ?_ | refine tr_gr rfl (by assumption) (by decide) (by assumption) ?_ | refine tr_gi rfl (by decide) (by assumption) (by decide) (by assumption) (by assumption) ?_ | (refine tr_rem ?_ ?_ rfl ?_; omega; omega) | (refine tr_div ?_ ?_ rfl ?_; omega; omega) | refine tr_mv rfl (fun _ => rfl) ?_ | refine tr_ia2 (m32_of (by omega)) (by omega) rfl (fun _ => rfl) rfl (by decide) (by decide) (fun _ => rfl) ?_ | refine tr_size (by assumption) rfl rfl ?_ | refine tr_at2 (by assumption) (m32_of (by omega)) rfl rfl ?_)
      rw [hbu]
      refine tr_put ha (hBi u) rfl rfl ?_
      rw [rput_lt (by omega)]
      repeat (first | refine tr_gr rfl ⟨by decide, rfl⟩ (by decide) rfl ?_ | refine tr_gi rfl (by decide) ⟨by decide, rfl⟩ (by decide) rfl rfl ?_ | refine tr_gr rfl (by assumption) (by decide) (by assumption) ?_ | refine tr_gi rfl (by decide) (by assumption) (by decide) (by assumption) (by assumption) ?_ | (refine tr_rem ?_ ?_ rfl ?_; omega; omega) | (refine tr_div ?_ ?_ rfl ?_; omega; omega) | refine tr_mv rfl (fun _ => rfl) ?_ | refine tr_ia2 (m32_of (by omega)) (by omega) rfl (fun _ => rfl) rfl (by decide) (by decide) (fun _ => rfl) ?_ | refine tr_size (by assumption) rfl rfl ?_ | refine tr_at2 (by assumption) (m32_of (by omega)) rfl rfl ?_)
      refine tr_vc (q := 3) rfl ⟨by decide, rfl⟩ rfl rfl rfl (s_14 hu (by show in32 (bOf σ u); rw [hbu]; exact hBi u) ?_)
      first | refine tr_ib rfl (fun c2 => ?_) (fun c2 => ?_) | refine tr_ibn rfl (fun c2 => ?_) (fun c2 => ?_)
      · exact absurd (show bOf σ u ≠ -1 by rw [hbu]; exact c1) c2
      · repeat (first | refine tr_gr rfl ⟨by decide, rfl⟩ (by decide) rfl ?_ | refine tr_gi rfl (by decide) ⟨by decide, rfl⟩ (by decide) rfl rfl ?_ | refine tr_gr rfl (by assumption) (by decide) (by assumption) ?_ | refine tr_gi rfl (by decide) (by assumption) (by decide) (by assumption) (by assumption) ?_ | (refine tr_rem ?_ ?_ rfl ?_; omega; omega) | (refine tr_div ?_ ?_ rfl ?_; omega; omega) | refine tr_mv rfl (fun _ => rfl) ?_ | refine tr_ia2 (m32_of (by omega)) (by omega) rfl (fun _ => rfl) rfl (by decide) (by decide) (fun _ => rfl) ?_ | refine tr_size (by assumption) rfl rfl ?_ | refine tr_at2 (by assumption) (m32_of (by omega)) rfl rfl ?_)
        refine tr_vc (q := 3) rfl ⟨by decide, rfl⟩ rfl rfl rfl (s_16 hu ?_)
        refine tr_put ha (by show in32 (kOf σ u); rw [hMu]; exact hMi u) rfl rfl ?_
        rw [setR_same, rput_lt (by simp; omega), setR_setR]
        refine tl _ rfl (by rw [setR_same]; simp; omega) ?_
        rw [setR_same, setR_setR, show kOf (setR σ b (σ.1 b ++ [B u])) u = M u from hMu]
        simpa using K
  repeat (first | refine tr_gr rfl ⟨by decide, rfl⟩ (by decide) rfl ?_ | refine tr_gi rfl (by decide) ⟨by decide, rfl⟩ (by decide) rfl rfl ?_ | refine tr_gr rfl (by assumption) (by decide) (by assumption) ?_ | refine tr_gi rfl (by decide) (by assumption) (by decide) (by assumption) (by assumption) ?_ | (refine tr_rem ?_ ?_ rfl ?_; omega; omega) | (refine tr_div ?_ ?_ rfl ?_; omega; omega) | refine tr_mv rfl (fun _ => rfl) ?_ | refine tr_ia2 (m32_of (by omega)) (by omega) rfl (fun _ => rfl) rfl (by decide) (by decide) (fun _ => rfl) ?_ | refine tr_size (by assumption) rfl rfl ?_ | refine tr_at2 (by assumption) (m32_of (by omega)) rfl rfl ?_)
  refine tr_vc (q := 3) rfl ⟨by decide, rfl⟩ rfl rfl rfl (s_14 hx (by rw [hbx]; exact hBi x) ?_)
  first | refine tr_ib rfl (fun c1 => ?_) (fun c1 => ?_) | refine tr_ibn rfl (fun c1 => ?_) (fun c1 => ?_)
  · rw [hbx] at c1
    iterate 2 (refine tr_mv rfl (fun _ => rfl) ?_)
    exact key x hx (by rw [if_neg c1])
  · rw [hbx] at c1
    repeat (first | refine tr_gr rfl ⟨by decide, rfl⟩ (by decide) rfl ?_ | refine tr_gi rfl (by decide) ⟨by decide, rfl⟩ (by decide) rfl rfl ?_ | refine tr_gr rfl (by assumption) (by decide) (by assumption) ?_ | refine tr_gi rfl (by decide) (by assumption) (by decide) (by assumption) (by assumption) ?_ | (refine tr_rem ?_ ?_ rfl ?_; omega; omega) | (refine tr_div ?_ ?_ rfl ?_; omega; omega) | refine tr_mv rfl (fun _ => rfl) ?_ | refine tr_ia2 (m32_of (by omega)) (by omega) rfl (fun _ => rfl) rfl (by decide) (by decide) (fun _ => rfl) ?_ | refine tr_size (by assumption) rfl rfl ?_ | refine tr_at2 (by assumption) (m32_of (by omega)) rfl rfl ?_)
    refine tr_vc (q := 3) rfl ⟨by decide, rfl⟩ rfl rfl rfl (s_15 hx ?_)
    iterate 2 (refine tr_mv rfl (fun _ => rfl) ?_)
    exact key (bOf σ x) (by rw [hbx]; exact hBi x) (by rw [if_pos c1, hbx])
end COMP
