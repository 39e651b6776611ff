/-! Calls, conditions, quotients; the small methods without a state. -/
def b2 (p : Prop) [Decidable p] : Int := if p then 1 else 0
section BASE
variable {Ls N N1 N2 k pc n nn b c t a q : Nat} {L L0 : mLs} {st r as : List mV} {h h' : mH} {σ : Sg} {post : tP} {x y z x' y' i : Int} {xs : List Int} {e : mE}
theorem tr_cmp2 {cd : Jvm.ClassFile.Cond} {off : Int} (he : mPg.1 k pc = some (.if_icmp cd off, n, t, b, c)) (ex : m32 x = x') (ey : m32 y = y') (K1 : mcP cd x' y' → Tr Ls N k t L r σ post) (K2 : ¬ mcP cd x' y' → Tr Ls N k (pc + n) L r σ post) : Tr Ls N k pc L (mI y :: mI x :: r) σ post :=
  tr_cmp he (fun hc => K1 (by rw [ex, ey] at hc; exact hc)) (fun hc => K2 (by rw [ex, ey] at hc; exact hc))
theorem tr_if2 {cd : Jvm.ClassFile.Cond} {off : Int} (he : mPg.1 k pc = some (.ifCond cd off, n, t, b, c)) (ex : m32 x = x') (K1 : mcP cd x' 0 → Tr Ls N k t L r σ post) (K2 : ¬ mcP cd x' 0 → Tr Ls N k (pc + n) L r σ post) : Tr Ls N k pc L (mI x :: r) σ post :=
  tr_if he (fun hc => K1 (by rw [ex] at hc; exact hc)) (fun hc => K2 (by rw [ex] at hc; exact hc))
theorem b2_pos {p : Prop} [Decidable p] (hp : p) : b2 p = 1 := if_pos hp
theorem b2_neg {p : Prop} [Decidable p] (hp : ¬ p) : b2 p = 0 := if_neg hp
theorem b2_in (p : Prop) [Decidable p] : b2 p = 0 ∨ b2 p = 1 := by
  unfold b2
  split
  · exact Or.inr rfl
  · exact Or.inl rfl
theorem b2_congr {p p' : Prop} [Decidable p] [Decidable p'] (hp : p ↔ p') : b2 p = b2 p' := by
  unfold b2
  by_cases h : p
  · rw [if_pos h, if_pos (hp.mp h)]
  · rw [if_neg h, if_neg (fun g => h (hp.mpr g))]
theorem tr_ib {p : Prop} [Decidable p] {off : Int} (he : mPg.1 k pc = some (.ifCond .eq off, n, t, b, c)) (K1 : ¬ p → Tr Ls N k t L r σ post) (K2 : p → Tr Ls N k (pc + n) L r σ post) : Tr Ls N k pc L (mI (b2 p) :: r) σ post := by
  refine tr_if he (fun hc => K1 (fun hp => ?_)) (fun hc => K2 (Decidable.byContradiction fun hp => hc ?_))
  · rw [b2_pos hp] at hc
    exact absurd hc (by decide)
  · rw [b2_neg hp]
    decide
theorem tr_ibn {p : Prop} [Decidable p] {off : Int} (he : mPg.1 k pc = some (.ifCond .ne off, n, t, b, c)) (K1 : p → Tr Ls N k t L r σ post) (K2 : ¬ p → Tr Ls N k (pc + n) L r σ post) : Tr Ls N k pc L (mI (b2 p) :: r) σ post := by
  refine tr_if he (fun hc => K1 (Decidable.byContradiction fun hp => hc ?_)) (fun hc => K2 (fun hp => hc ?_))
  · rw [b2_neg hp]
    decide
  · rw [b2_pos hp]
    decide
theorem tr_rb1 {p : Prop} [Decidable p] (he : mPg.1 k pc = some (.ireturn, n, a, b, c)) (hp : p) (K : post (.inl (some (mI (b2 p)))) σ) : Tr Ls N k pc L [mI 1] σ post :=
  tr_reti he (Or.inr (Or.inr rfl)) (by rw [b2_pos hp] at K; exact K)
theorem tr_rb0 {p : Prop} [Decidable p] (he : mPg.1 k pc = some (.ireturn, n, a, b, c)) (hp : ¬ p) (K : post (.inl (some (mI (b2 p)))) σ) : Tr Ls N k pc L [mI 0] σ post :=
  tr_reti he (Or.inr (Or.inl rfl)) (by rw [b2_neg hp] at K; exact K)
theorem tr_rb {p : Prop} [Decidable p] (he : mPg.1 k pc = some (.ireturn, n, a, b, c)) (K : post (.inl (some (mI (b2 p)))) σ) : Tr Ls N k pc L [mI (b2 p)] σ post :=
  tr_reti he (Or.inr (b2_in p)) K
/-- calls -/
theorem tr_stat {j : Nat} (he : mPg.1 k pc = some (.invokestatic j, 3, a, n, c)) (hm : mcall a n st = some (.inr (.inl (a, as, r)))) (hent : mentry as (mPg.2.2.1 a) = L0) (hk : Tr Ls 0 a 0 L0 [] σ (tK Ls N k pc L r post)) : Tr Ls N k pc L st σ post := by
  subst hent
  exact tr_call (N1 := 0) (N2 := N) he (fun h hr => hm) hk (by omega)
theorem tr_vc {j : Nat} (he : mPg.1 k pc = some (.invokevirtual j, 3, a, n, c)) (hq : isO q c) (hst : st[n]? = some (mP (some q))) (hm : mcall a (n + 1) st = some (.inr (.inl (a, as, r)))) (hent : mentry as (mPg.2.2.1 a) = L0) (hk : Tr Ls 0 a 0 L0 [] σ (tK Ls N k pc L r post)) : Tr Ls N k pc L st σ post := by
  subst hent
  exact tr_virt (N1 := 0) (N2 := N) he hq hst hm hk (by omega)
/-- quotients of what isn't negative -/
theorem div32 (h1 : 0 ≤ x ∧ x < 2147483648) (h2 : 0 < y ∧ y < 2147483648) : (Int32.ofInt x / Int32.ofInt y).toInt = x / y := by
  have e1 : (Int32.ofInt x).toInt = x := m32_of (by omega)
  have e2 : (Int32.ofInt y).toInt = y := m32_of (by omega)
  rw [Int32.toInt_div, e1, e2, Int.tdiv_eq_ediv_of_nonneg h1.1]
  have e3 : 0 ≤ x / y := Int.ediv_nonneg h1.1 (by omega)
  have e4 : x / y ≤ x := Int.ediv_le_self y h1.1
  exact Int.bmod_eq_of_le (by omega) (by omega)
theorem rem32 (h1 : 0 ≤ x ∧ x < 2147483648) (h2 : 0 < y ∧ y < 2147483648) : (Int32.ofInt x - Int32.ofInt x / Int32.ofInt y * Int32.ofInt y).toInt = x % y := by
  have e1 : (Int32.ofInt x).toInt = x := m32_of (by omega)
  have e2 : (Int32.ofInt y).toInt = y := m32_of (by omega)
  have e3 : 0 ≤ x / y := Int.ediv_nonneg h1.1 (by omega)
  have e4 : x / y ≤ x := Int.ediv_le_self y h1.1
  have e5 := Int.emod_def x y
  have e6 := Int.emod_nonneg x (show y ≠ 0 by omega)
  have e7 := Int.emod_lt_of_pos x h2.1
  have e8 : (Int32.ofInt x / Int32.ofInt y * Int32.ofInt y).toInt = x / y * y := by
    rw [Int32.toInt_mul, div32 h1 h2, e2]
    have : x / y * y = x - x % y := by rw [e5, Int.mul_comm]; omega
    have : x % y ≤ x := by
      have h9 : 0 ≤ x / y * y := Int.mul_nonneg e3 (by omega)
      omega
    exact Int.bmod_eq_of_le (by omega) (by omega)
  rw [Int32.toInt_sub, e8, e1]
  have e9 : x - x / y * y = x % y := by rw [e5, Int.mul_comm]
  rw [e9]
  exact Int.bmod_eq_of_le (by omega) (by omega)
theorem tr_div (h1 : 0 ≤ x ∧ x < 2147483648) (h2 : 0 < y ∧ y < 2147483648) (he : mPg.1 k pc = some (.idiv, n, a, b, c)) (K : Tr Ls N k (pc + n) L (mI (x / y) :: r) σ post) : Tr Ls N k pc L (mI y :: mI x :: r) σ post := by
  refine tr_mv he (fun h => ?_) K
  simp only [mstep, mi2]
  rw [m32_of (show in32 y by omega), if_neg (by omega), div32 h1 h2]
  rfl
theorem tr_rem (h1 : 0 ≤ x ∧ x < 2147483648) (h2 : 0 < y ∧ y < 2147483648) (he : mPg.1 k pc = some (.irem, n, a, b, c)) (K : Tr Ls N k (pc + n) L (mI (x % y) :: r) σ post) : Tr Ls N k pc L (mI y :: mI x :: r) σ post := by
  refine tr_mv he (fun h => ?_) K
  simp only [mstep, mi2]
  rw [m32_of (show in32 y by omega), if_neg (by omega), rem32 h1 h2]
  rfl
/-! the JDK's -/
def icmp (x y : Int) : Int := if x < y then -1 else if x = y then 0 else 1
theorem s_327 (hx : in32 x) (hy : in32 y) (K : post (.inl (some (mI (icmp x y)))) σ) : Tr Ls N 327 0 [some (mI x), some (mI y)] [] σ post := by
  unfold icmp at K
  repeat (first | (refine tr_rem ?_ ?_ rfl ?_; omega; omega) | (refine tr_div ?_ ?_ rfl ?_; omega; omega) | refine tr_mv rfl (fun _ => rfl) ?_ | refine tr_gr rfl ⟨by decide, rfl⟩ (by decide) rfl ?_ | refine tr_gi rfl (by decide) ⟨by decide, rfl⟩ (by decide) rfl rfl ?_ | refine tr_gr rfl (by assumption) (by decide) (by assumption) ?_ | refine tr_gi rfl (by decide) (by assumption) (by decide) (by assumption) (by assumption) ?_)
  refine tr_cmp2 rfl (m32_of (by omega)) (m32_of (by omega)) (fun c1 => ?_) (fun c1 => ?_)
  · repeat (first | (refine tr_rem ?_ ?_ rfl ?_; omega; omega) | (refine tr_div ?_ ?_ rfl ?_; omega; omega) | refine tr_mv rfl (fun _ => rfl) ?_ | refine tr_gr rfl ⟨by decide, rfl⟩ (by decide) rfl ?_ | refine tr_gi rfl (by decide) ⟨by decide, rfl⟩ (by decide) rfl rfl ?_ | refine tr_gr rfl (by assumption) (by decide) (by assumption) ?_ | refine tr_gi rfl (by decide) (by assumption) (by decide) (by assumption) (by assumption) ?_)
    refine tr_cmp2 rfl (m32_of (by omega)) (m32_of (by omega)) (fun c2 => ?_) (fun c2 => ?_)
    · repeat (first | (refine tr_rem ?_ ?_ rfl ?_; omega; omega) | (refine tr_div ?_ ?_ rfl ?_; omega; omega) | refine tr_mv rfl (fun _ => rfl) ?_ | refine tr_gr rfl ⟨by decide, rfl⟩ (by decide) rfl ?_ | refine tr_gi rfl (by decide) ⟨by decide, rfl⟩ (by decide) rfl rfl ?_ | refine tr_gr rfl (by assumption) (by decide) (by assumption) ?_ | refine tr_gi rfl (by decide) (by assumption) (by decide) (by assumption) (by assumption) ?_)
      rw [if_neg (by omega), if_neg (by omega)] at K
      exact tr_reti rfl (Or.inl rfl) K
    · repeat (first | (refine tr_rem ?_ ?_ rfl ?_; omega; omega) | (refine tr_div ?_ ?_ rfl ?_; omega; omega) | refine tr_mv rfl (fun _ => rfl) ?_ | refine tr_gr rfl ⟨by decide, rfl⟩ (by decide) rfl ?_ | refine tr_gi rfl (by decide) ⟨by decide, rfl⟩ (by decide) rfl rfl ?_ | refine tr_gr rfl (by assumption) (by decide) (by assumption) ?_ | refine tr_gi rfl (by decide) (by assumption) (by decide) (by assumption) (by assumption) ?_)
      rw [if_neg (by omega), if_pos (by omega)] at K
      exact tr_reti rfl (Or.inl rfl) K
  · repeat (first | (refine tr_rem ?_ ?_ rfl ?_; omega; omega) | (refine tr_div ?_ ?_ rfl ?_; omega; omega) | refine tr_mv rfl (fun _ => rfl) ?_ | refine tr_gr rfl ⟨by decide, rfl⟩ (by decide) rfl ?_ | refine tr_gi rfl (by decide) ⟨by decide, rfl⟩ (by decide) rfl rfl ?_ | refine tr_gr rfl (by assumption) (by decide) (by assumption) ?_ | refine tr_gi rfl (by decide) (by assumption) (by decide) (by assumption) (by assumption) ?_)
    rw [if_pos (by omega)] at K
    exact tr_reti rfl (Or.inl rfl) K
theorem s_329 (hx : in32 x) (hy : in32 y) (K : post (.inl (some (mI (if x < y then y else x)))) σ) : Tr Ls N 329 0 [some (mI x), some (mI y)] [] σ post := by
  repeat (first | (refine tr_rem ?_ ?_ rfl ?_; omega; omega) | (refine tr_div ?_ ?_ rfl ?_; omega; omega) | refine tr_mv rfl (fun _ => rfl) ?_ | refine tr_gr rfl ⟨by decide, rfl⟩ (by decide) rfl ?_ | refine tr_gi rfl (by decide) ⟨by decide, rfl⟩ (by decide) rfl rfl ?_ | refine tr_gr rfl (by assumption) (by decide) (by assumption) ?_ | refine tr_gi rfl (by decide) (by assumption) (by decide) (by assumption) (by assumption) ?_)
  refine tr_cmp2 rfl (m32_of (by omega)) (m32_of (by omega)) (fun c1 => ?_) (fun c1 => ?_)
  · repeat (first | (refine tr_rem ?_ ?_ rfl ?_; omega; omega) | (refine tr_div ?_ ?_ rfl ?_; omega; omega) | refine tr_mv rfl (fun _ => rfl) ?_ | refine tr_gr rfl ⟨by decide, rfl⟩ (by decide) rfl ?_ | refine tr_gi rfl (by decide) ⟨by decide, rfl⟩ (by decide) rfl rfl ?_ | refine tr_gr rfl (by assumption) (by decide) (by assumption) ?_ | refine tr_gi rfl (by decide) (by assumption) (by decide) (by assumption) (by assumption) ?_)
    rw [if_pos (by omega)] at K
    exact tr_reti rfl (Or.inl rfl) K
  · repeat (first | (refine tr_rem ?_ ?_ rfl ?_; omega; omega) | (refine tr_div ?_ ?_ rfl ?_; omega; omega) | refine tr_mv rfl (fun _ => rfl) ?_ | refine tr_gr rfl ⟨by decide, rfl⟩ (by decide) rfl ?_ | refine tr_gi rfl (by decide) ⟨by decide, rfl⟩ (by decide) rfl rfl ?_ | refine tr_gr rfl (by assumption) (by decide) (by assumption) ?_ | refine tr_gi rfl (by decide) (by assumption) (by decide) (by assumption) (by assumption) ?_)
    rw [if_neg (by omega)] at K
    exact tr_reti rfl (Or.inl rfl) K
theorem s_330 (hx : in32 x) (hy : in32 y) (K : post (.inl (some (mI (if y < x then y else x)))) σ) : Tr Ls N 330 0 [some (mI x), some (mI y)] [] σ post := by
  repeat (first | (refine tr_rem ?_ ?_ rfl ?_; omega; omega) | (refine tr_div ?_ ?_ rfl ?_; omega; omega) | refine tr_mv rfl (fun _ => rfl) ?_ | refine tr_gr rfl ⟨by decide, rfl⟩ (by decide) rfl ?_ | refine tr_gi rfl (by decide) ⟨by decide, rfl⟩ (by decide) rfl rfl ?_ | refine tr_gr rfl (by assumption) (by decide) (by assumption) ?_ | refine tr_gi rfl (by decide) (by assumption) (by decide) (by assumption) (by assumption) ?_)
  refine tr_cmp2 rfl (m32_of (by omega)) (m32_of (by omega)) (fun c1 => ?_) (fun c1 => ?_)
  · repeat (first | (refine tr_rem ?_ ?_ rfl ?_; omega; omega) | (refine tr_div ?_ ?_ rfl ?_; omega; omega) | refine tr_mv rfl (fun _ => rfl) ?_ | refine tr_gr rfl ⟨by decide, rfl⟩ (by decide) rfl ?_ | refine tr_gi rfl (by decide) ⟨by decide, rfl⟩ (by decide) rfl rfl ?_ | refine tr_gr rfl (by assumption) (by decide) (by assumption) ?_ | refine tr_gi rfl (by decide) (by assumption) (by decide) (by assumption) (by assumption) ?_)
    rw [if_pos (by omega)] at K
    exact tr_reti rfl (Or.inl rfl) K
  · repeat (first | (refine tr_rem ?_ ?_ rfl ?_; omega; omega) | (refine tr_div ?_ ?_ rfl ?_; omega; omega) | refine tr_mv rfl (fun _ => rfl) ?_ | refine tr_gr rfl ⟨by decide, rfl⟩ (by decide) rfl ?_ | refine tr_gi rfl (by decide) ⟨by decide, rfl⟩ (by decide) rfl rfl ?_ | refine tr_gr rfl (by assumption) (by decide) (by assumption) ?_ | refine tr_gi rfl (by decide) (by assumption) (by decide) (by assumption) (by assumption) ?_)
    rw [if_neg (by omega)] at K
    exact tr_reti rfl (Or.inl rfl) K
theorem s_174 (hx : in32 x) (K : post (.inl (some (mI (b2 (0 ≤ x ∧ x < 3))))) σ) : Tr Ls N 174 0 [some (mI x)] [] σ post := by
  repeat (first | (refine tr_rem ?_ ?_ rfl ?_; omega; omega) | (refine tr_div ?_ ?_ rfl ?_; omega; omega) | refine tr_mv rfl (fun _ => rfl) ?_ | refine tr_gr rfl ⟨by decide, rfl⟩ (by decide) rfl ?_ | refine tr_gi rfl (by decide) ⟨by decide, rfl⟩ (by decide) rfl rfl ?_ | refine tr_gr rfl (by assumption) (by decide) (by assumption) ?_ | refine tr_gi rfl (by decide) (by assumption) (by decide) (by assumption) (by assumption) ?_)
  refine tr_if2 rfl (m32_of (by omega)) (fun c1 => ?_) (fun c1 => ?_)
  · repeat (first | (refine tr_rem ?_ ?_ rfl ?_; omega; omega) | (refine tr_div ?_ ?_ rfl ?_; omega; omega) | refine tr_mv rfl (fun _ => rfl) ?_ | refine tr_gr rfl ⟨by decide, rfl⟩ (by decide) rfl ?_ | refine tr_gi rfl (by decide) ⟨by decide, rfl⟩ (by decide) rfl rfl ?_ | refine tr_gr rfl (by assumption) (by decide) (by assumption) ?_ | refine tr_gi rfl (by decide) (by assumption) (by decide) (by assumption) (by assumption) ?_)
    exact tr_rb0 rfl (by omega) K
  · repeat (first | (refine tr_rem ?_ ?_ rfl ?_; omega; omega) | (refine tr_div ?_ ?_ rfl ?_; omega; omega) | refine tr_mv rfl (fun _ => rfl) ?_ | refine tr_gr rfl ⟨by decide, rfl⟩ (by decide) rfl ?_ | refine tr_gi rfl (by decide) ⟨by decide, rfl⟩ (by decide) rfl rfl ?_ | refine tr_gr rfl (by assumption) (by decide) (by assumption) ?_ | refine tr_gi rfl (by decide) (by assumption) (by decide) (by assumption) (by assumption) ?_)
    refine tr_cmp2 rfl (m32_of (by omega)) (m32_of (by omega)) (fun c2 => ?_) (fun c2 => ?_)
    · repeat (first | (refine tr_rem ?_ ?_ rfl ?_; omega; omega) | (refine tr_div ?_ ?_ rfl ?_; omega; omega) | refine tr_mv rfl (fun _ => rfl) ?_ | refine tr_gr rfl ⟨by decide, rfl⟩ (by decide) rfl ?_ | refine tr_gi rfl (by decide) ⟨by decide, rfl⟩ (by decide) rfl rfl ?_ | refine tr_gr rfl (by assumption) (by decide) (by assumption) ?_ | refine tr_gi rfl (by decide) (by assumption) (by decide) (by assumption) (by assumption) ?_)
      exact tr_rb0 rfl (by omega) K
    · repeat (first | (refine tr_rem ?_ ?_ rfl ?_; omega; omega) | (refine tr_div ?_ ?_ rfl ?_; omega; omega) | refine tr_mv rfl (fun _ => rfl) ?_ | refine tr_gr rfl ⟨by decide, rfl⟩ (by decide) rfl ?_ | refine tr_gi rfl (by decide) ⟨by decide, rfl⟩ (by decide) rfl rfl ?_ | refine tr_gr rfl (by assumption) (by decide) (by assumption) ?_ | refine tr_gi rfl (by decide) (by assumption) (by decide) (by assumption) (by assumption) ?_)
      exact tr_rb1 rfl (by omega) K
end BASE
