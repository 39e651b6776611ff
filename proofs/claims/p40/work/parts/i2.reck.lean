/-! The constructors reckoned out: a tailoring's. -/
noncomputable def cx_is (lo : Nat) (H : cx_H) (q j : Nat) (v : Int) : Bool := cond (Nat.ble lo q) (cond (Nat.blt q H.1) (cond (Nat.blt j (cx_S q / 32)) (decide (cx_lf (cx_gt 10 (cx_gt 10 H.2 q) j) = v)) false) false) false
theorem cx_is' {lo Ls q j : Nat} {h : mH} {H : cx_H} {v : Int} (R : cx_R lo Ls h H) (hi : cx_is lo H q j v = true) : h.2.1 q j = v := by
  obtain ⟨h1, h2⟩ := cx_cnd hi
  obtain ⟨h2, h3⟩ := cx_cnd h2
  obtain ⟨h3, h4⟩ := cx_cnd h3
  rw [R.2.2.2.2.2.1 q j (Nat.le_of_ble_eq_true h1) (Nat.le_of_ble_eq_true h2) (Nat.le_of_ble_eq_true h3)]
  exact of_decide_eq_true h4
def cx_for (n : Nat) (f : Nat → Bool) : Bool := (List.range n).all f
theorem cx_for' {n : Nat} {f : Nat → Bool} (h : cx_for n f = true) : ∀ i, i < n → f i = true := fun i hi => List.all_eq_true.mp h i (List.mem_range.mpr hi)
/-- the rows of a new tailoring -/
def cx_ro (d : Nat) : List Int := ([[], D0.1, [], D0.2.1, [], w1 0 D0.2.1, [], w2 1 D0.2.1, [], w3 1 D0.2.1] : List (List Int)).getD d []
/-- the rows behind the constructors -/
def cx_rw (a : Nat) : List Int := if 12 ≤ a ∧ a < 34 then cx_ro (a - 12) else if 273 ≤ a ∧ a < 295 then cx_ro (a - 273) else if 302 ≤ a ∧ a < 324 then cx_ro (a - 302) else if 331 ≤ a ∧ a < 353 then cx_ro (a - 331) else []
def cx_fin (x : Option (Option mV × cx_H)) (n : Nat) (c : cx_H → Bool) : Bool := match x with
  | some (none, H) => cond (Nat.beq H.1 n) (c H) false
  | _ => false
theorem cx_fin' {x : Option (Option mV × cx_H)} {n : Nat} {c : cx_H → Bool} (h : cx_fin x n c = true) : ∃ H, x = some (none, H) ∧ H.1 = n ∧ c H = true := by
  rcases x with _ | ⟨_ | v, H⟩
  · cases h
  · obtain ⟨h1, h2⟩ := cx_cnd h
    exact ⟨H, rfl, Nat.eq_of_beq_eq_true h1, h2⟩
  · cases h
/-- the cells of a new tailoring at q -/
noncomputable def cx_E (q a j : Nat) : Int := cond (Nat.beq a q) (Int.ofNat (q + 1 + 2 * j)) (cond (Nat.beq (cx_S a) 88) (match j with
  | 0 => Int.ofNat (a + 1)
  | 1 => Int.ofNat (cx_rw a).length
  | _ => 0) (cond (Nat.beq a (q + 21)) 0 ((cx_rw (a - 1)).getD j 0)))
noncomputable def cx_ct (q : Nat) (H : cx_H) : Bool := cx_for 22 fun i => cx_for (cx_S (q + i) / 32) fun j => cx_is q H (q + i) j (cx_E q (q + i) j)
def cx_k0 : cx_K := fun _ _ => none
noncomputable def cx_tr (q : Nat) : Bool := cx_fin (cx_run cx_k0 q 20000 105 0 (mentry [mP (some q)] (mN 105)) [] (q + 1, cx_st 10 (.num 0) q (cx_bl 10 0 1 (mfd 9)))) (q + 22) (cx_ct q)
set_option maxRecDepth 100000 in
theorem cx_t0 : cx_tr 12 = true := by decide +kernel
set_option maxRecDepth 100000 in
theorem cx_t1 : cx_tr 273 = true := by decide +kernel
