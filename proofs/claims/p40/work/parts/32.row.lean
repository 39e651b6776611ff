/-! The methods of the class Row, on a heap. -/
def rsh (S : List (Nat × Nat)) (a n : Nat) : Prop := S[a]? = some (24, 2) ∧ S[a + 1]? = some (0, n) ∧ 2 ≤ a ∧ n < 100000
def rowIs (h : mH) (a n : Nat) (xs : List Int) : Prop := rsh h.1 a n ∧ h.2.1 a 0 = ((a + 1 : Nat) : Int) ∧ h.2.1 a 1 = (xs.length : Int) ∧ xs.length ≤ n ∧ ∀ i, i < xs.length → h.2.1 (a + 1) i = xs.getD i 0
def rget (xs : List Int) (i : Int) : Int := if 0 ≤ i ∧ i < xs.length then xs.getD i.toNat 0 else -1
section ROW
variable {k pc n nn b c t a : Nat} {L : mLs} {st r : List mV} {h h' : mH} {v : Option mV} {x y i : Int} {xs : List Int}
theorem rn_if {cd : Jvm.ClassFile.Cond} {off : Int} (he : mPg.1 k pc = some (.ifCond cd off, n, t, b, c)) (hc : mcP cd (m32 x) 0) (K : Rn k t L r h v h') : Rn k pc L (mI x :: r) h v h' := by
  refine rn_step he ?_ K
  simp only [mstep, mi1, mif, mnx]
  rw [if_pos (mcnd_iff.mpr hc)]
theorem rn_ifn {cd : Jvm.ClassFile.Cond} {off : Int} (he : mPg.1 k pc = some (.ifCond cd off, n, t, b, c)) (hc : ¬ mcP cd (m32 x) 0) (K : Rn k (pc + n) L r h v h') : Rn k pc L (mI x :: r) h v h' := by
  refine rn_step he ?_ K
  simp only [mstep, mi1, mif, mnx]
  rw [if_neg (fun h9 => hc (mcnd_iff.mp h9))]
theorem rn_cmp {cd : Jvm.ClassFile.Cond} {off : Int} (he : mPg.1 k pc = some (.if_icmp cd off, n, t, b, c)) (hc : mcP cd (m32 x) (m32 y)) (K : Rn k t L r h v h') : Rn k pc L (mI y :: mI x :: r) h v h' := by
  refine rn_step he ?_ K
  simp only [mstep, mi2, mif, mnx]
  rw [if_pos (mcnd_iff.mpr hc)]
theorem rn_cmpn {cd : Jvm.ClassFile.Cond} {off : Int} (he : mPg.1 k pc = some (.if_icmp cd off, n, t, b, c)) (hc : ¬ mcP cd (m32 x) (m32 y)) (K : Rn k (pc + n) L r h v h') : Rn k pc L (mI y :: mI x :: r) h v h' := by
  refine rn_step he ?_ K
  simp only [mstep, mi2, mif, mnx]
  rw [if_neg (fun h9 => hc (mcnd_iff.mp h9))]
theorem rn_gsz {j : Nat} (he : mPg.1 k pc = some (.getfield j, n, 8, 1, 0)) (hS : rsh h.1 a nn) (K : Rn k (pc + n) L (mI (h.2.1 a 1) :: r) h v h') : Rn k pc L (mP (some a) :: r) h v h' := by
  refine rn_step he ?_ K
  have hz : msz h a 24 = some 2 := by unfold msz; rw [hS.1]; rfl
  simp only [mstep, mp1]
  rw [hz]
  dsimp only
  rw [if_pos ⟨hS.2.2.1, by decide⟩, if_neg (by decide)]
  rfl
theorem rn_gc {j : Nat} (he : mPg.1 k pc = some (.getfield j, n, 8, 0, 1)) (hS : rsh h.1 a nn) (h0 : h.2.1 a 0 = ((a + 1 : Nat) : Int)) (K : Rn k (pc + n) L (mP (some (a + 1)) :: r) h v h') : Rn k pc L (mP (some a) :: r) h v h' := by
  refine rn_step he ?_ K
  have hz : msz h a 24 = some 2 := by unfold msz; rw [hS.1]; rfl
  simp only [mstep, mp1]
  rw [hz]
  dsimp only
  rw [if_pos ⟨hS.2.2.1, by decide⟩, if_pos trivial, h0, if_pos (by omega)]
  rfl
theorem rn_ps {j : Nat} (he : mPg.1 k pc = some (.putfield j, n, 8, 1, 0)) (hS : rsh h.1 a nn) (K : Rn k (pc + n) L r (h.1, mup h.2.1 a 1 x, h.2.2) v h') : Rn k pc L (mI x :: mP (some a) :: r) h v h' := by
  refine rn_step he ?_ K
  have hz : msz h a 24 = some 2 := by unfold msz; rw [hS.1]; rfl
  simp only [mstep]
  rw [hz]
  dsimp only
  rw [if_pos ⟨hS.2.2.1, by decide, Or.inl trivial⟩]
  rfl
theorem rn_ld (he : mPg.1 k pc = some (.iaload, n, t, b, c)) (hS : rsh h.1 a nn) (hi : 0 ≤ m32 i ∧ m32 i < nn) (K : Rn k (pc + n) L (mI (h.2.1 (a + 1) (m32 i).toNat) :: r) h v h') : Rn k pc L (mI i :: mP (some (a + 1)) :: r) h v h' := by
  refine rn_step he ?_ K
  have hz : msz h (a + 1) 0 = some nn := by unfold msz; rw [hS.2.1]; rfl
  simp only [mstep, mix, mrd]
  rw [hz]
  dsimp only
  rw [if_pos hi]
  rfl
theorem rn_st (he : mPg.1 k pc = some (.iastore, n, t, b, c)) (hS : rsh h.1 a nn) (hi : 0 ≤ m32 i ∧ m32 i < nn) (K : Rn k (pc + n) L r (h.1, mup h.2.1 (a + 1) (m32 i).toNat x, h.2.2) v h') : Rn k pc L (mI x :: mI i :: mP (some (a + 1)) :: r) h v h' := by
  refine rn_step he ?_ K
  have hz : msz h (a + 1) 0 = some nn := by unfold msz; rw [hS.2.1]; rfl
  simp only [mstep, mwr]
  rw [hz]
  dsimp only
  rw [if_pos ⟨by have := hS.2.2.1; omega, hi⟩]
  rfl
theorem rn_al (he : mPg.1 k pc = some (.arraylength, n, t, b, c)) (hS : rsh h.1 a nn) (K : Rn k (pc + n) L (mI nn :: r) h v h') : Rn k pc L (mP (some (a + 1)) :: r) h v h' := by
  refine rn_step he ?_ K
  simp only [mstep, mp1]
  rw [hS.2.1]
  dsimp only
  rw [if_pos ⟨by decide, by have := hS.2.2.2; omega⟩]
  rfl
theorem rn_reti (he : mPg.1 k pc = some (.ireturn, n, t, b, c)) (hx : c = 0 ∨ x = 0 ∨ x = 1) : Rn k pc L [mI x] h (some (mI x)) h :=
  rn_ret he (by simp only [mstep, mi1]; rw [if_pos ⟨trivial, hx⟩])
theorem row_size (hr : rowIs h a n xs) : Rn 93 0 [some (mP (some a))] [] h (some (mI xs.length)) h := by
  obtain ⟨hS, h0, h1, hl, hc⟩ := hr
  repeat (first | refine rn_step rfl rfl ?_)
  refine rn_gsz rfl hS ?_
  rw [h1]
  exact rn_reti rfl (Or.inl rfl)
theorem row_isEmpty (hr : rowIs h a n xs) : Rn 94 0 [some (mP (some a))] [] h (some (mI (if xs = [] then 1 else 0))) h := by
  obtain ⟨hS, h0, h1, hl, hc⟩ := hr
  repeat (first | refine rn_step rfl rfl ?_)
  refine rn_gsz rfl hS ?_
  rw [h1]
  have h9 : n < 100000 := hS.2.2.2
  cases xs with
  | nil =>
    refine rn_ifn rfl (by decide) ?_
    repeat (first | refine rn_step rfl rfl ?_)
    exact rn_reti rfl (Or.inr (Or.inr rfl))
  | cons x xs =>
    refine rn_if rfl ?_ ?_
    · show m32 (((x :: xs).length : Nat) : Int) ≠ 0
      rw [m32_nat (by omega)]
      simp only [List.length_cons]
      omega
    repeat (first | refine rn_step rfl rfl ?_)
    exact rn_reti rfl (Or.inr (Or.inl rfl))
theorem row_at (hr : rowIs h a n xs) (i : Int) : Rn 95 0 [some (mP (some a)), some (mI i)] [] h (some (mI (rget xs (m32 i)))) h := by
  obtain ⟨hS, h0, h1, hl, hc⟩ := hr
  have h9 : n < 100000 := hS.2.2.2
  repeat (first | refine rn_step rfl rfl ?_)
  by_cases c1 : m32 i < 0
  · refine rn_if rfl c1 ?_
    repeat (first | refine rn_step rfl rfl ?_)
    rw [show rget xs (m32 i) = -1 from if_neg (by omega)]
    exact rn_reti rfl (Or.inl rfl)
  · refine rn_ifn rfl c1 ?_
    repeat (first | refine rn_step rfl rfl ?_)
    refine rn_gsz rfl hS ?_
    rw [h1]
    by_cases c2 : (xs.length : Int) ≤ m32 i
    · refine rn_cmp rfl (by show m32 _ ≤ m32 _; rw [m32_nat (by omega)]; exact c2) ?_
      repeat (first | refine rn_step rfl rfl ?_)
      rw [show rget xs (m32 i) = -1 from if_neg (by omega)]
      exact rn_reti rfl (Or.inl rfl)
    · refine rn_cmpn rfl (by show ¬ m32 _ ≤ m32 _; rw [m32_nat (by omega)]; exact c2) ?_
      repeat (first | refine rn_step rfl rfl ?_)
      refine rn_gc rfl hS h0 ?_
      repeat (first | refine rn_step rfl rfl ?_)
      refine rn_ld rfl hS (by omega) ?_
      rw [hc _ (by omega), show rget xs (m32 i) = xs.getD (m32 i).toNat 0 from if_pos (by omega)]
      repeat (first | refine rn_step rfl rfl ?_)
      exact rn_reti rfl (Or.inl rfl)
theorem row_clear (hr : rowIs h a n xs) : Rn 100 0 [some (mP (some a))] [] h none (h.1, mup h.2.1 a 1 0, h.2.2) := by
  obtain ⟨hS, h0, h1, hl, hc⟩ := hr
  repeat (first | refine rn_step rfl rfl ?_)
  refine rn_ps rfl hS ?_
  exact rn_ret rfl rfl
theorem row_set (hr : rowIs h a n xs) (i x : Int) : Rn 96 0 [some (mP (some a)), some (mI i), some (mI x)] [] h none (if 0 ≤ m32 i ∧ m32 i < xs.length then (h.1, mup h.2.1 (a + 1) (m32 i).toNat x, h.2.2) else h) := by
  obtain ⟨hS, h0, h1, hl, hc⟩ := hr
  have h9 : n < 100000 := hS.2.2.2
  repeat (first | refine rn_step rfl rfl ?_)
  by_cases c1 : m32 i < 0
  · refine rn_if rfl c1 ?_
    rw [if_neg (by omega)]
    exact rn_ret rfl rfl
  · refine rn_ifn rfl c1 ?_
    repeat (first | refine rn_step rfl rfl ?_)
    refine rn_gsz rfl hS ?_
    rw [h1]
    by_cases c2 : (xs.length : Int) ≤ m32 i
    · refine rn_cmp rfl (by show m32 _ ≤ m32 _; rw [m32_nat (by omega)]; exact c2) ?_
      rw [if_neg (by omega)]
      exact rn_ret rfl rfl
    · refine rn_cmpn rfl (by show ¬ m32 _ ≤ m32 _; rw [m32_nat (by omega)]; exact c2) ?_
      rw [if_pos (by omega)]
      repeat (first | refine rn_step rfl rfl ?_)
      refine rn_gc rfl hS h0 ?_
      repeat (first | refine rn_step rfl rfl ?_)
      refine rn_st rfl hS (by omega) ?_
      exact rn_ret rfl rfl
theorem row_put (hr : rowIs h a n xs) (x : Int) : Rn 97 0 [some (mP (some a)), some (mI x)] [] h none (if xs.length < n then (h.1, mup (mup h.2.1 (a + 1) xs.length x) a 1 ((xs.length : Int) + 1), h.2.2) else h) := by
  obtain ⟨hS, h0, h1, hl, hc⟩ := hr
  have h9 : n < 100000 := hS.2.2.2
  repeat (first | refine rn_step rfl rfl ?_)
  refine rn_gsz rfl hS ?_
  rw [h1]
  repeat (first | refine rn_step rfl rfl ?_)
  refine rn_gc rfl hS h0 ?_
  refine rn_al rfl hS ?_
  by_cases c2 : (n : Int) ≤ xs.length
  · refine rn_cmp rfl (by show m32 _ ≤ m32 _; rw [m32_nat (by omega), m32_nat (by omega)]; exact c2) ?_
    rw [if_neg (by omega)]
    exact rn_ret rfl rfl
  · refine rn_cmpn rfl (by show ¬ m32 _ ≤ m32 _; rw [m32_nat (by omega), m32_nat (by omega)]; exact c2) ?_
    rw [if_pos (by omega)]
    repeat (first | refine rn_step rfl rfl ?_)
    refine rn_gc rfl hS h0 ?_
    repeat (first | refine rn_step rfl rfl ?_)
    refine rn_gsz rfl hS ?_
    rw [h1]
    repeat (first | refine rn_step rfl rfl ?_)
    refine rn_st rfl hS (by rw [m32_nat (by omega)]; omega) ?_
    rw [m32_nat (by omega)]
    repeat (first | refine rn_step rfl rfl ?_)
    refine rn_gsz rfl hS ?_
    rw [show ((h.1, mup h.2.1 (a + 1) ((xs.length : Int).toNat) x, h.2.2) : mH).2.1 a 1 = (xs.length : Int) from by
      show mup h.2.1 (a + 1) _ x a 1 = _
      unfold mup
      rw [if_neg (by omega)]
      exact h1]
    repeat (first | refine rn_step rfl rfl ?_)
    refine rn_ps rfl hS ?_
    exact rn_ret rfl rfl
/-- cells moved one place up above idx, from the place i down -/
theorem row_ins_loop (a n : Nat) (idx : Nat) (i x : Int) (hix : m32 i = (idx : Int)) : ∀ (d : Nat) (h : mH), rsh h.1 a n → h.2.1 a 0 = ((a + 1 : Nat) : Int) → idx + d < n → ∀ h2 v, (∀ h3 : mH, h3.1 = h.1 → h3.2.2 = h.2.2 → (∀ q, q ≠ a + 1 → h3.2.1 q = h.2.1 q) → (∀ j, h3.2.1 (a + 1) j = if idx < j ∧ j ≤ idx + d then h.2.1 (a + 1) (j - 1) else h.2.1 (a + 1) j) → Rn 98 55 [some (mP (some a)), some (mI i), some (mI x), some (mI (idx : Int))] [] h3 v h2) →
    Rn 98 30 [some (mP (some a)), some (mI i), some (mI x), some (mI ((idx + d : Nat) : Int))] [] h v h2 := by
  intro d
  induction d with
  | zero =>
    intro h hS h0 hd h2 v K
    have h9 : n < 100000 := hS.2.2.2
    repeat (first | refine rn_step rfl rfl ?_)
    refine rn_cmp rfl (by show m32 _ ≤ m32 _; rw [hix, m32_nat (by omega)]; omega) ?_
    exact K h rfl rfl (fun _ _ => rfl) (fun j => by rw [if_neg (by omega)])
  | succ d ih =>
    intro h hS h0 hd h2 v K
    have h9 : n < 100000 := hS.2.2.2
    repeat (first | refine rn_step rfl rfl ?_)
    refine rn_cmpn rfl (by show ¬ m32 _ ≤ m32 _; rw [hix, m32_nat (by omega)]; omega) ?_
    repeat (first | refine rn_step rfl rfl ?_)
    refine rn_gc rfl hS h0 ?_
    repeat (first | refine rn_step rfl rfl ?_)
    refine rn_gc rfl hS h0 ?_
    repeat (first | refine rn_step rfl rfl ?_)
    have e1 : m32 (((idx + (d + 1) : Nat) : Int) - 1) = ((idx + d : Nat) : Int) := by
      rw [show ((idx + (d + 1) : Nat) : Int) - 1 = ((idx + d : Nat) : Int) by omega]
      exact m32_nat (by omega)
    refine rn_ld rfl hS (by rw [e1]; omega) ?_
    rw [e1]
    refine rn_st rfl hS (by rw [m32_nat (by omega)]; omega) ?_
    rw [m32_nat (by omega)]
    iterate 2 (refine rn_step rfl rfl ?_)
    show Rn 98 30 [some (mP (some a)), some (mI i), some (mI x), some (mI (((idx + (d + 1) : Nat) : Int) + -1))] [] _ v h2
    rw [show ((idx + (d + 1) : Nat) : Int) + -1 = ((idx + d : Nat) : Int) by omega]
    refine ih (h.1, mup h.2.1 (a + 1) _ _, h.2.2) hS ?_ (by omega) h2 v (fun h3 k1 k2 k3 k4 => K h3 k1 k2 (fun q hq => ?_) (fun j => ?_))
    · show mup h.2.1 (a + 1) _ _ a 0 = _
      unfold mup
      rw [if_neg (by omega)]
      exact h0
    · rw [k3 q hq]
      funext j
      show mup h.2.1 (a + 1) _ _ q j = _
      exact if_neg hq
    · rw [k4 j]
      show (if idx < j ∧ j ≤ idx + d then mup h.2.1 (a + 1) _ _ (a + 1) (j - 1) else mup h.2.1 (a + 1) _ _ (a + 1) j) = _
      unfold mup
      simp only [if_true, Int.toNat_natCast]
      by_cases g1 : j = idx + (d + 1)
      · subst g1
        rw [if_neg (by omega), if_pos rfl, if_pos (by omega)]
        rfl
      · by_cases g2 : idx < j ∧ j ≤ idx + d
        · rw [if_pos g2, if_neg (by omega), if_pos (by omega)]
        · rw [if_neg g2, if_neg g1, if_neg (by omega)]
theorem row_insert (hr : rowIs h a n xs) (i x : Int) : ∃ h2 : mH, Rn 98 0 [some (mP (some a)), some (mI i), some (mI x), none] [] h none h2 ∧ h2.1 = h.1 ∧ (∀ q, q ≠ a → q ≠ a + 1 → h2.2.1 q = h.2.1 q) ∧ h2.2.1 a 0 = ((a + 1 : Nat) : Int) ∧
    (if 0 ≤ m32 i ∧ m32 i ≤ xs.length ∧ xs.length < n then h2.2.1 a 1 = ((xs.length + 1 : Nat) : Int) ∧ ∀ j, h2.2.1 (a + 1) j = if j = (m32 i).toNat then x else if (m32 i).toNat < j ∧ j ≤ xs.length then h.2.1 (a + 1) (j - 1) else h.2.1 (a + 1) j else h2 = h) := by
  obtain ⟨hS, h0, h1, hl, hc⟩ := hr
  have h9 : n < 100000 := hS.2.2.2
  by_cases c0 : 0 ≤ m32 i ∧ m32 i ≤ xs.length ∧ xs.length < n
  · simp only [if_pos c0]
    obtain ⟨ix, hix⟩ : ∃ ix : Nat, m32 i = ix := ⟨(m32 i).toNat, by omega⟩
    rw [hix]
    have K0 : ∀ h3 : mH, h3.1 = h.1 → h3.2.1 a 0 = ((a + 1 : Nat) : Int) → h3.2.1 a 1 = (xs.length : Int) → Rn 98 55 [some (mP (some a)), some (mI i), some (mI x), some (mI (ix : Int))] [] h3 none (h3.1, mup (mup h3.2.1 (a + 1) ix x) a 1 ((xs.length : Int) + 1), h3.2.2) := by
      intro h3 k1 k2 k3
      rw [← k1] at hS
      repeat (first | refine rn_step rfl rfl ?_)
      refine rn_gc rfl hS k2 ?_
      repeat (first | refine rn_step rfl rfl ?_)
      refine rn_st rfl hS (by omega) ?_
      rw [hix]
      repeat (first | refine rn_step rfl rfl ?_)
      refine rn_gsz rfl hS ?_
      rw [show ((h3.1, mup h3.2.1 (a + 1) ((ix : Int).toNat) x, h3.2.2) : mH).2.1 a 1 = (xs.length : Int) from by
        show mup h3.2.1 (a + 1) _ x a 1 = _
        unfold mup
        rw [if_neg (by omega)]
        exact k3]
      repeat (first | refine rn_step rfl rfl ?_)
      refine rn_ps rfl hS ?_
      exact rn_ret rfl rfl
    have hloop : ∀ h2, (∀ h3 : mH, h3.1 = h.1 → h3.2.2 = h.2.2 → (∀ q, q ≠ a + 1 → h3.2.1 q = h.2.1 q) → (∀ j, h3.2.1 (a + 1) j = if ix < j ∧ j ≤ xs.length then h.2.1 (a + 1) (j - 1) else h.2.1 (a + 1) j) → Rn 98 55 [some (mP (some a)), some (mI i), some (mI x), some (mI (ix : Int))] [] h3 none h2) → Rn 98 0 [some (mP (some a)), some (mI i), some (mI x), none] [] h none h2 := by
      intro h2 K
      repeat (first | refine rn_step rfl rfl ?_)
      refine rn_ifn rfl (by show ¬ m32 i < 0; omega) ?_
      repeat (first | refine rn_step rfl rfl ?_)
      refine rn_gsz rfl hS ?_
      rw [h1]
      refine rn_cmpn rfl (by show ¬ m32 _ < m32 _; rw [m32_nat (by omega)]; omega) ?_
      repeat (first | refine rn_step rfl rfl ?_)
      refine rn_gsz rfl hS ?_
      rw [h1]
      repeat (first | refine rn_step rfl rfl ?_)
      refine rn_gc rfl hS h0 ?_
      refine rn_al rfl hS ?_
      refine rn_cmp rfl (by show m32 _ < m32 _; rw [m32_nat (by omega), m32_nat (by omega)]; omega) ?_
      repeat (first | refine rn_step rfl rfl ?_)
      refine rn_gsz rfl hS ?_
      rw [h1]
      iterate 1 (refine rn_step rfl rfl ?_)
      have hg := row_ins_loop a n ix i x hix (xs.length - ix) h hS h0 (by omega) h2 none (fun h3 k1 k2 k3 k4 => K h3 k1 k2 k3 (fun j => by rw [k4 j, show ix + (xs.length - ix) = xs.length by omega]))
      rw [show ix + (xs.length - ix) = xs.length by omega] at hg
      exact hg
    have hex : ∃ h3 : mH, h3.1 = h.1 ∧ h3.2.2 = h.2.2 ∧ (∀ q, q ≠ a + 1 → h3.2.1 q = h.2.1 q) ∧ ∀ j, h3.2.1 (a + 1) j = if ix < j ∧ j ≤ xs.length then h.2.1 (a + 1) (j - 1) else h.2.1 (a + 1) j :=
      ⟨(h.1, fun q j => if q = a + 1 then (if ix < j ∧ j ≤ xs.length then h.2.1 (a + 1) (j - 1) else h.2.1 (a + 1) j) else h.2.1 q j, h.2.2), rfl, rfl, fun q hq => funext fun j => if_neg hq, fun j => if_pos rfl⟩
    obtain ⟨h3, k1, k2, k3, k4⟩ := hex
    refine ⟨(h3.1, mup (mup h3.2.1 (a + 1) ix x) a 1 ((xs.length : Int) + 1), h3.2.2), hloop _ (fun h4 e1 e2 e3 e4 => ?_), k1, fun q hq1 hq2 => ?_, ?_, ?_, fun j => ?_⟩
    · have e5 : h4 = h3 := by
        obtain ⟨a1, a2, a3⟩ := h4
        obtain ⟨b1, b2, b3⟩ := h3
        dsimp only at *
        have : a2 = b2 := by
          funext q j
          by_cases hq : q = a + 1
          · subst hq
            rw [e4 j, k4 j]
          · rw [e3 q hq, k3 q hq]
        rw [this, e1, e2, k1, k2]
      rw [e5]
      refine K0 h3 k1 ?_ ?_
      · rw [k3 a (by omega)]; exact h0
      · rw [k3 a (by omega)]; exact h1
    · show (fun j => mup (mup h3.2.1 (a + 1) ix x) a 1 _ q j) = _
      unfold mup
      funext j
      rw [if_neg hq1, if_neg hq2, k3 q hq2]
    · show mup (mup h3.2.1 (a + 1) ix x) a 1 _ a 0 = _
      unfold mup
      rw [if_pos rfl, if_neg (by decide), if_neg (by omega), k3 a (by omega)]
      exact h0
    · show mup (mup h3.2.1 (a + 1) ix x) a 1 _ a 1 = _
      unfold mup
      rw [if_pos rfl, if_pos rfl]
      omega
    · show mup (mup h3.2.1 (a + 1) ix x) a 1 _ (a + 1) j = _
      unfold mup
      rw [if_neg (by omega), if_pos rfl]
      by_cases g : j = ix
      · rw [if_pos g, if_pos (by omega)]
      · rw [if_neg g, if_neg (by omega), k4 j]
        by_cases g2 : ix < j ∧ j ≤ xs.length
        · rw [if_pos g2, if_pos (by omega)]
        · rw [if_neg g2, if_neg (by omega)]
  · simp only [if_neg c0]
    refine ⟨h, ?_, rfl, fun _ _ _ => rfl, h0, rfl⟩
    repeat (first | refine rn_step rfl rfl ?_)
    by_cases c1 : m32 i < 0
    · refine rn_if rfl c1 ?_
      exact rn_ret rfl rfl
    · refine rn_ifn rfl c1 ?_
      repeat (first | refine rn_step rfl rfl ?_)
      refine rn_gsz rfl hS ?_
      rw [h1]
      by_cases c2 : (xs.length : Int) < m32 i
      · refine rn_cmp rfl (by show m32 _ < m32 _; rw [m32_nat (by omega)]; exact c2) ?_
        exact rn_ret rfl rfl
      · refine rn_cmpn rfl (by show ¬ m32 _ < m32 _; rw [m32_nat (by omega)]; exact c2) ?_
        repeat (first | refine rn_step rfl rfl ?_)
        refine rn_gsz rfl hS ?_
        rw [h1]
        repeat (first | refine rn_step rfl rfl ?_)
        refine rn_gc rfl hS h0 ?_
        refine rn_al rfl hS ?_
        refine rn_cmpn rfl (by show ¬ m32 _ < m32 _; rw [m32_nat (by omega), m32_nat (by omega)]; omega) ?_
        exact rn_ret rfl rfl
theorem row_rem_loop (a n : Nat) (m : Nat) (i : Int) : ∀ (d : Nat) (h : mH) (s : Nat), rsh h.1 a n → h.2.1 a 0 = ((a + 1 : Nat) : Int) → h.2.1 a 1 = ((m + 1 : Nat) : Int) → m + 1 ≤ n → s + d = m → ∀ h2, (∀ h3 : mH, h3.1 = h.1 → h3.2.2 = h.2.2 → (∀ q, q ≠ a + 1 → h3.2.1 q = h.2.1 q) → (∀ j, h3.2.1 (a + 1) j = if s ≤ j ∧ j < m then h.2.1 (a + 1) (j + 1) else h.2.1 (a + 1) j) → Rn 99 45 [some (mP (some a)), some (mI i), some (mI (m : Int))] [] h3 none h2) →
    Rn 99 15 [some (mP (some a)), some (mI i), some (mI (s : Int))] [] h none h2 := by
  intro d
  induction d with
  | zero =>
    intro h s hS h0 h1 hm hd h2 K
    have h9 : n < 100000 := hS.2.2.2
    obtain rfl : s = m := by omega
    repeat (first | refine rn_step rfl rfl ?_)
    refine rn_gsz rfl hS ?_
    rw [h1]
    repeat (first | refine rn_step rfl rfl ?_)
    refine rn_cmp rfl (by show m32 _ ≤ m32 _; rw [show ((s + 1 : Nat) : Int) - 1 = (s : Int) by omega, m32_nat (by omega)]; omega) ?_
    exact K h rfl rfl (fun _ _ => rfl) (fun j => by rw [if_neg (by omega)])
  | succ d ih =>
    intro h s hS h0 h1 hm hd h2 K
    have h9 : n < 100000 := hS.2.2.2
    repeat (first | refine rn_step rfl rfl ?_)
    refine rn_gsz rfl hS ?_
    rw [h1]
    repeat (first | refine rn_step rfl rfl ?_)
    refine rn_cmpn rfl (by show ¬ m32 _ ≤ m32 _; rw [show ((m + 1 : Nat) : Int) - 1 = (m : Int) by omega, m32_nat (by omega), m32_nat (by omega)]; omega) ?_
    repeat (first | refine rn_step rfl rfl ?_)
    refine rn_gc rfl hS h0 ?_
    repeat (first | refine rn_step rfl rfl ?_)
    refine rn_gc rfl hS h0 ?_
    repeat (first | refine rn_step rfl rfl ?_)
    have e1 : m32 ((s : Int) + 1) = ((s + 1 : Nat) : Int) := by
      rw [show (s : Int) + 1 = ((s + 1 : Nat) : Int) by omega]
      exact m32_nat (by omega)
    refine rn_ld rfl hS (by rw [e1]; omega) ?_
    rw [e1]
    refine rn_st rfl hS (by rw [m32_nat (by omega)]; omega) ?_
    rw [m32_nat (by omega)]
    iterate 2 (refine rn_step rfl rfl ?_)
    show Rn 99 15 [some (mP (some a)), some (mI i), some (mI ((s : Int) + 1))] [] _ none h2
    rw [show (s : Int) + 1 = ((s + 1 : Nat) : Int) by omega]
    refine ih (h.1, mup h.2.1 (a + 1) _ _, h.2.2) (s + 1) hS ?_ ?_ hm (by omega) h2 (fun h3 k1 k2 k3 k4 => K h3 k1 k2 (fun q hq => ?_) (fun j => ?_))
    · show mup h.2.1 (a + 1) _ _ a 0 = _
      unfold mup
      rw [if_neg (by omega)]
      exact h0
    · show mup h.2.1 (a + 1) _ _ a 1 = _
      unfold mup
      rw [if_neg (by omega)]
      exact h1
    · rw [k3 q hq]
      funext j
      show mup h.2.1 (a + 1) _ _ q j = _
      exact if_neg hq
    · rw [k4 j]
      show (if s + 1 ≤ j ∧ j < m then mup h.2.1 (a + 1) _ _ (a + 1) (j + 1) else mup h.2.1 (a + 1) _ _ (a + 1) j) = _
      unfold mup
      simp only [if_true, Int.toNat_natCast]
      by_cases g1 : j = s
      · subst g1
        rw [if_neg (by omega), if_pos rfl, if_pos (by omega)]
      · by_cases g2 : s + 1 ≤ j ∧ j < m
        · rw [if_pos g2, if_neg (by omega), if_pos (by omega)]
        · rw [if_neg g2, if_neg g1, if_neg (by omega)]
theorem row_remove (hr : rowIs h a n xs) (i : Int) (hi : in32 i) : ∃ h2 : mH, Rn 99 0 [some (mP (some a)), some (mI i), none] [] h none h2 ∧ h2.1 = h.1 ∧ (∀ q, q ≠ a → q ≠ a + 1 → h2.2.1 q = h.2.1 q) ∧ h2.2.1 a 0 = ((a + 1 : Nat) : Int) ∧
    (if 0 ≤ i ∧ i < xs.length then h2.2.1 a 1 = (xs.length : Int) - 1 ∧ ∀ j, h2.2.1 (a + 1) j = if i.toNat ≤ j ∧ j < xs.length - 1 then h.2.1 (a + 1) (j + 1) else h.2.1 (a + 1) j else h2 = h) := by
  obtain ⟨hS, h0, h1, hl, hc⟩ := hr
  have h9 : n < 100000 := hS.2.2.2
  have ei : m32 i = i := m32_of hi
  by_cases c0 : 0 ≤ i ∧ i < xs.length
  · simp only [if_pos c0]
    obtain ⟨ix, rfl⟩ : ∃ ix : Nat, i = ix := ⟨i.toNat, by omega⟩
    obtain ⟨m, hm⟩ : ∃ m : Nat, xs.length = m + 1 := ⟨xs.length - 1, by omega⟩
    have K0 : ∀ h3 : mH, h3.1 = h.1 → h3.2.1 a 1 = (xs.length : Int) → Rn 99 45 [some (mP (some a)), some (mI (ix : Int)), some (mI (m : Int))] [] h3 none (h3.1, mup h3.2.1 a 1 ((xs.length : Int) - 1), h3.2.2) := by
      intro h3 k1 k3
      rw [← k1] at hS
      repeat (first | refine rn_step rfl rfl ?_)
      refine rn_gsz rfl hS ?_
      rw [k3]
      repeat (first | refine rn_step rfl rfl ?_)
      refine rn_ps rfl hS ?_
      exact rn_ret rfl rfl
    have hloop : ∀ h2, (∀ h3 : mH, h3.1 = h.1 → h3.2.2 = h.2.2 → (∀ q, q ≠ a + 1 → h3.2.1 q = h.2.1 q) → (∀ j, h3.2.1 (a + 1) j = if ix ≤ j ∧ j < m then h.2.1 (a + 1) (j + 1) else h.2.1 (a + 1) j) → Rn 99 45 [some (mP (some a)), some (mI (ix : Int)), some (mI (m : Int))] [] h3 none h2) → Rn 99 0 [some (mP (some a)), some (mI (ix : Int)), none] [] h none h2 := by
      intro h2 K
      repeat (first | refine rn_step rfl rfl ?_)
      refine rn_ifn rfl (by show ¬ m32 _ < 0; omega) ?_
      repeat (first | refine rn_step rfl rfl ?_)
      refine rn_gsz rfl hS ?_
      rw [h1]
      refine rn_cmp rfl (by show m32 _ < m32 _; rw [m32_nat (by omega), m32_nat (by omega)]; omega) ?_
      iterate 2 (refine rn_step rfl rfl ?_)
      have hlp := row_rem_loop a n m (ix : Int) (m - ix) h ix hS h0 (by omega) (by omega) (by omega) h2 K
      exact hlp
    have hex : ∃ h3 : mH, h3.1 = h.1 ∧ h3.2.2 = h.2.2 ∧ (∀ q, q ≠ a + 1 → h3.2.1 q = h.2.1 q) ∧ ∀ j, h3.2.1 (a + 1) j = if ix ≤ j ∧ j < m then h.2.1 (a + 1) (j + 1) else h.2.1 (a + 1) j :=
      ⟨(h.1, fun q j => if q = a + 1 then (if ix ≤ j ∧ j < m then h.2.1 (a + 1) (j + 1) else h.2.1 (a + 1) j) else h.2.1 q j, h.2.2), rfl, rfl, fun q hq => funext fun j => if_neg hq, fun j => if_pos rfl⟩
    obtain ⟨h3, k1, k2, k3, k4⟩ := hex
    refine ⟨(h3.1, mup h3.2.1 a 1 ((xs.length : Int) - 1), h3.2.2), hloop _ (fun h4 e1 e2 e3 e4 => ?_), k1, fun q hq1 hq2 => ?_, ?_, ?_, fun j => ?_⟩
    · have e5 : h4 = h3 := by
        obtain ⟨a1, a2, a3⟩ := h4
        obtain ⟨b1, b2, b3⟩ := h3
        dsimp only at *
        have : a2 = b2 := by
          funext q j
          by_cases hq : q = a + 1
          · subst hq
            rw [e4 j, k4 j]
          · rw [e3 q hq, k3 q hq]
        rw [this, e1, e2, k1, k2]
      rw [e5]
      refine K0 h3 k1 ?_
      rw [k3 a (by omega)]; exact h1
    · show (fun j => mup h3.2.1 a 1 _ q j) = _
      unfold mup
      funext j
      rw [if_neg hq1, k3 q hq2]
    · show mup h3.2.1 a 1 _ a 0 = _
      unfold mup
      rw [if_pos rfl, if_neg (by decide), k3 a (by omega)]
      exact h0
    · show mup h3.2.1 a 1 _ a 1 = _
      unfold mup
      rw [if_pos rfl, if_pos rfl]
    · show mup h3.2.1 a 1 _ (a + 1) j = _
      unfold mup
      rw [if_neg (by omega), k4 j, show xs.length - 1 = m by omega]
      rfl
  · simp only [if_neg c0]
    refine ⟨h, ?_, rfl, fun _ _ _ => rfl, h0, rfl⟩
    repeat (first | refine rn_step rfl rfl ?_)
    by_cases c1 : m32 i < 0
    · refine rn_if rfl c1 ?_
      exact rn_ret rfl rfl
    · refine rn_ifn rfl c1 ?_
      repeat (first | refine rn_step rfl rfl ?_)
      refine rn_gsz rfl hS ?_
      rw [h1]
      refine rn_cmpn rfl (by show ¬ m32 _ < m32 _; rw [m32_nat (by omega)]; omega) ?_
      exact rn_ret rfl rfl
theorem row_place_loop (a n : Nat) (h : mH) (xs : List Int) (x : Int) (hr : rowIs h a n xs) (hx : in32 x) (hin : ∀ y ∈ xs, in32 y) : ∀ (d s : Nat), s + d = xs.length → ∀ (r : Int), (∀ j, j < xs.length → s ≤ j → xs.getD j 0 = x → (∀ i, s ≤ i → i < j → xs.getD i 0 ≠ x) → r = j) → ((∀ j, s ≤ j → j < xs.length → xs.getD j 0 ≠ x) → r = -1) → Rn 103 2 [some (mP (some a)), some (mI x), some (mI (s : Int))] [] h (some (mI r)) h := by
  obtain ⟨hS, h0, h1, hl, hc⟩ := hr
  have h9 : n < 100000 := hS.2.2.2
  intro d
  induction d with
  | zero =>
    intro s hd r _ k2
    repeat (first | refine rn_step rfl rfl ?_)
    refine rn_gsz rfl hS ?_
    rw [h1]
    refine rn_cmp rfl (by show m32 _ ≤ m32 _; rw [m32_nat (by omega), m32_nat (by omega)]; omega) ?_
    rw [k2 (fun j _ _ => by omega)]
    repeat (first | refine rn_step rfl rfl ?_)
    exact rn_reti rfl (Or.inl rfl)
  | succ d ih =>
    intro s hd r k1 k2
    repeat (first | refine rn_step rfl rfl ?_)
    refine rn_gsz rfl hS ?_
    rw [h1]
    refine rn_cmpn rfl (by show ¬ m32 _ ≤ m32 _; rw [m32_nat (by omega), m32_nat (by omega)]; omega) ?_
    repeat (first | refine rn_step rfl rfl ?_)
    refine rn_gc rfl hS h0 ?_
    repeat (first | refine rn_step rfl rfl ?_)
    refine rn_ld rfl hS (by rw [m32_nat (by omega)]; omega) ?_
    rw [m32_nat (by omega), Int.toNat_natCast, hc s (by omega)]
    repeat (first | refine rn_step rfl rfl ?_)
    have hm : in32 (xs.getD s 0) := by
      rw [List.getD_eq_getElem?_getD, List.getElem?_eq_getElem (show s < xs.length by omega)]
      exact hin _ (List.getElem_mem _)
    by_cases c1 : xs.getD s 0 = x
    · refine rn_cmpn rfl (by show ¬ m32 _ ≠ m32 _; rw [c1]; exact fun h => h rfl) ?_
      rw [k1 s (by omega) (Nat.le_refl _) c1 (fun i g1 g2 => by omega)]
      repeat (first | refine rn_step rfl rfl ?_)
      exact rn_reti rfl (Or.inl rfl)
    · refine rn_cmp rfl (by show m32 _ ≠ m32 _; rw [m32_of hm, m32_of hx]; exact c1) ?_
      iterate 2 (refine rn_step rfl rfl ?_)
      show Rn 103 2 [some (mP (some a)), some (mI x), some (mI ((s : Int) + 1))] [] h (some (mI r)) h
      rw [show (s : Int) + 1 = ((s + 1 : Nat) : Int) by omega]
      refine ih (s + 1) (by omega) r (fun j g1 g2 g3 g4 => k1 j g1 (by omega) g3 (fun i g5 g6 => ?_)) (fun g => k2 (fun j g1 g2 => ?_))
      · by_cases g7 : i = s
        · rw [g7]; exact c1
        · exact g4 i (by omega) g6
      · by_cases g7 : j = s
        · rw [g7]; exact c1
        · exact g j (by omega) g2
/-- the first place of x, or -1 -/
def rplace (xs : List Int) (x : Int) : Int := match xs.findIdx? (fun y => decide (y = x)) with
  | some j => (j : Int)
  | none => -1
theorem row_placeOf (hr : rowIs h a n xs) (hx : in32 x) (hin : ∀ y ∈ xs, in32 y) : Rn 103 0 [some (mP (some a)), some (mI x), none] [] h (some (mI (rplace xs x))) h := by
  iterate 2 (refine rn_step rfl rfl ?_)
  refine row_place_loop a n h xs x hr hx hin xs.length 0 (Nat.zero_add _) _ (fun j g1 _ g3 g4 => ?_) (fun g => ?_)
  · unfold rplace
    have e : xs.findIdx? (fun y => decide (y = x)) = some j := by
      rw [List.findIdx?_eq_some_iff_getElem]
      refine ⟨g1, ?_, fun i hi => ?_⟩
      · rw [List.getD_eq_getElem?_getD, List.getElem?_eq_getElem g1] at g3
        exact decide_eq_true g3
      · have := g4 i (Nat.zero_le _) hi
        rw [List.getD_eq_getElem?_getD, List.getElem?_eq_getElem (show i < xs.length by omega)] at this
        simpa using this
    rw [e]
  · unfold rplace
    have e : xs.findIdx? (fun y => decide (y = x)) = none := by
      rw [List.findIdx?_eq_none_iff]
      intro y hy
      obtain ⟨j, hj, rfl⟩ := List.getElem_of_mem hy
      have := g j (Nat.zero_le _) hj
      rw [List.getD_eq_getElem?_getD, List.getElem?_eq_getElem hj] at this
      simpa using this
    rw [e]
end ROW
