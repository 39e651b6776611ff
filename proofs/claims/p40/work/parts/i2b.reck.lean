/-! The class's constructor, over the tailorings'. -/
noncomputable def cx_ms (T : cx_T) (q : Nat) : Nat → cx_T
  | 0 => T
  | i + 1 => cx_st 10 (cx_ms T q i) (q + i) (cx_bl 10 0 1 (cx_E q (q + i)))
theorem cx_ms' (T : cx_T) (q : Nat) : ∀ (i a : Nat), q + i ≤ 1024 → a < 1024 → cx_gt 10 (cx_ms T q i) a = if q ≤ a ∧ a < q + i then cx_bl 10 0 1 (cx_E q a) else cx_gt 10 T a := by
  intro i
  induction i with
  | zero =>
    intro a _ _
    rw [if_neg (by omega)]
    rfl
  | succ i ih =>
    intro a h1 h2
    show cx_gt 10 (cx_st 10 (cx_ms T q i) (q + i) (cx_bl 10 0 1 (cx_E q (q + i)))) a = _
    rw [cx_gs 10 _ _ _ _ (by omega) (by omega)]
    by_cases e : a = q + i
    · rw [if_pos e, if_pos (by omega), e]
    · rw [if_neg e, ih a (by omega) h2]
      by_cases e2 : q ≤ a ∧ a < q + i
      · rw [if_pos e2, if_pos (by omega)]
      · rw [if_neg e2, if_neg (by omega)]
noncomputable def cx_hq (q : Nat) (H : cx_H) : Option (Option mV × cx_H) := cond (cond (Nat.beq q 12) true (cond (Nat.beq q 273) true (cond (Nat.beq q 302) true (Nat.beq q 331)))) (cond (Nat.beq H.1 (q + 1)) (cond (cx_for 11 fun j => decide (cx_lf (cx_gt 10 (cx_gt 10 H.2 q) j) = mfd 9 j)) (some (none, (q + 22, cx_ms H.2 q 22))) none) none) none
noncomputable def cx_hk : cx_K := fun as H => match as with
  | [.inr (.inr (some q))] => cx_n q fun q => cx_hq q H
  | _ => none
theorem cx_cdn {α : Type} {b : Bool} {x : Option α} {y : α} (h : cond b x none = some y) : b = true ∧ x = some y := by
  cases b
  · cases h
  · exact ⟨rfl, h⟩
theorem cx_tq {q : Nat} (h : cond (Nat.beq q 12) true (cond (Nat.beq q 273) true (cond (Nat.beq q 302) true (Nat.beq q 331))) = true) : (q = 12 ∨ q = 273 ∨ q = 302 ∨ q = 331) ∧ cx_tr q = true := by
  cases e1 : Nat.beq q 12
  · rw [e1] at h
    cases e2 : Nat.beq q 273
    · rw [e2] at h
      cases e3 : Nat.beq q 302
      · rw [e3] at h
        have h : Nat.beq q 331 = true := h
        have e := Nat.eq_of_beq_eq_true h
        rw [e]
        exact ⟨by omega, cx_t3⟩
      · have e := Nat.eq_of_beq_eq_true e3
        rw [e]
        exact ⟨by omega, cx_t2⟩
    · have e := Nat.eq_of_beq_eq_true e2
      rw [e]
      exact ⟨by omega, cx_t1⟩
  · have e := Nat.eq_of_beq_eq_true e1
    rw [e]
    exact ⟨by omega, cx_t0⟩
theorem cx_k0' {lo Ls : Nat} : ∀ as H v H', cx_k0 as H = some (v, H') → ∀ h, cx_R lo Ls h H → cx_E1 lo Ls 105 0 (mentry as (mN 105)) [] h v H' := fun as H v H' hh => by cases hh
theorem cx_hk' {Ls : Nat} : ∀ as H v H', cx_hk as H = some (v, H') → ∀ h, cx_R 2 Ls h H → cx_E1 2 Ls 105 0 (mentry as (mN 105)) [] h v H' := by
  intro as H v H' hh h R
  have hq : ∃ q, as = [mP (some q)] ∧ cx_hq q H = some (v, H') := by
    unfold cx_hk at hh
    split at hh
    · rw [cx_n'] at hh
      exact ⟨_, rfl, hh⟩
    · cases hh
  clear hh
  obtain ⟨q, ea, hh⟩ := hq
  rw [ea]
  obtain ⟨hq, hh⟩ := cx_cdn hh
  obtain ⟨hn, hh⟩ := cx_cdn hh
  obtain ⟨hf, hh⟩ := cx_cdn hh
  cases hh
  obtain ⟨hq4, ht⟩ := cx_tq hq
  have hn := Nat.eq_of_beq_eq_true hn
  obtain ⟨H1, hrun, en, ec⟩ := cx_fin' ht
  obtain ⟨r1, r2, r3, r4, r5, r6, r7⟩ := R
  have hS : cx_S q / 32 = 11 := by
    have e : ∀ {q : Nat}, mShp[q]? = some (25, 11) → cx_S q / 32 = 11 := fun h => by rw [cx_S_of h]
    rcases hq4 with rfl | rfl | rfl | rfl <;> exact e (by decide +kernel)
  have R' : cx_R q Ls h (q + 1, cx_st 10 (.num 0) q (cx_bl 10 0 1 (mfd 9))) := by
    refine ⟨by omega, Nat.le_succ q, by show q + 1 ≤ 483; omega, by show h.1 = cx_sh Ls (q + 1); rw [r4, hn], r5, fun a j g1 g2 g3 => ?_, fun a j g1 g2 g3 => ?_⟩
    · have g2 : a < q + 1 := g2
      have ea : a = q := by omega
      rw [ea] at g3 ⊢
      rw [r6 q j (by omega) (by omega) g3]
      show _ = cx_lf (cx_gt 10 (cx_gt 10 (cx_st 10 (.num 0) q (cx_bl 10 0 1 (mfd 9))) q) j)
      rw [cx_gs 10 _ q q _ (by omega) (by omega), if_pos rfl, cx_gb _ 10 0 1 j (by omega), show 0 + 1 * j = j by omega]
      exact of_decide_eq_true (cx_for' hf j (by omega))
    · have g2 : a < q + 1 := g2
      exact r7 a j (by omega) (by omega) g3
  obtain ⟨g, h', c, s, q1, q2, q3⟩ := cx_run_sim cx_k0' _ _ _ _ _ _ _ _ hrun h R'
  refine ⟨g, h', c, s, q1, ?_, q3.1, q3.2.1, fun b hb => q3.2.2 b (by omega)⟩
  obtain ⟨x1, x2, x3, x4, x5, x6, x7⟩ := q2
  rw [en] at x3 x4
  refine ⟨Nat.le_refl _, by show 2 ≤ q + 22; omega, x3, x4, x5, fun a j g1 g2 g3 => ?_, fun a j g1 g2 g3 => ?_⟩
  · have g2 : a < q + 22 := g2
    have hj : j < 1024 := by
      have := (cx_get (a := a) (by omega)).2
      omega
    show _ = cx_lf (cx_gt 10 (cx_gt 10 (cx_ms H.2 q 22) a) j)
    rw [cx_ms' H.2 q 22 a (by omega) (by omega)]
    by_cases e : q ≤ a ∧ a < q + 22
    · rw [if_pos e, cx_gb _ 10 0 1 j (by omega), show 0 + 1 * j = j by omega]
      have := cx_for' (cx_for' ec (a - q) (by omega)) j (by rw [show q + (a - q) = a by omega]; exact g3)
      rw [show q + (a - q) = a by omega] at this
      exact cx_is' ⟨x1, x2, by omega, by rw [x4, en], x5, x6, x7⟩ this
    · rw [if_neg e, q3.2.2 a (by omega)]
      exact r6 a j g1 (by omega) g3
  · have g2 : a < q + 22 := g2
    by_cases e : q ≤ a
    · exact x7 a j e (by omega) g3
    · rw [q3.2.2 a (by omega)]
      exact r7 a j g1 (by omega) g3
noncomputable def cx_c1 (H : cx_H) : Bool :=
  cond (cx_for 480 fun a => cond (Nat.beq (cx_S a) 88) (cond (cx_is 2 H a 0 (Int.ofNat (a + 1))) (cond (cx_is 2 H a 1 (Int.ofNat (cx_rw a).length)) (cond (Nat.ble (cx_rw a).length (cx_S (a + 1) / 32)) (cx_for (cx_rw a).length fun i => cx_is 2 H (a + 1) i ((cx_rw a).getD i 0)) false) false) false) true)
  (cond (mPts.all fun p => cond (Nat.blt p.1 480) (cx_for p.2.length fun j => match p.2.getD j none with
    | some v => cx_is 2 H p.1 j (Int.ofNat v)
    | none => true) true)
  (cond (cx_for 48 fun i => cond (cx_is 2 H 4 i (-1)) (cx_is 2 H 5 i (-1)) false)
  (cond (cx_for 12 fun i => cx_is 2 H 34 i 0)
  (cond (cx_for 3 fun X => cond (cx_for 3 fun j => cx_is 2 H (273 + 29 * X + 21) j 0) (cx_is 2 H (295 + 29 * X) 3 0) false)
  (cond (cx_for 24 fun i => cond (cx_is 2 H (360 + 5 * i) 3 0) (cond (cx_is 2 H (360 + 5 * i) 4 0) (cond (cx_is 2 H (360 + 5 * i) 7 (-1)) (cx_is 2 H (360 + 5 * i) 8 0) false) false) false)
  (cond (cx_is 2 H 3 2 0) (cond (cx_is 2 H 2 4 0) (cond (cx_is 2 H 2 9 0) (cond (cx_is 2 H 2 13 12) (cx_is 2 H 2 14 10) false) false) false) false) false) false) false) false) false) false
set_option maxRecDepth 100000 in
theorem cx_k1_ok : cx_fin (cx_run cx_hk 2 20000 127 0 (mentry [mP (some 2)] (mN 127)) [] (3, cx_st 10 (.num 0) 2 (cx_bl 10 0 1 (mfd 10)))) 480 cx_c1 = true := by decide +kernel
