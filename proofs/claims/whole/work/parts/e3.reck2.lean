/-! The model's constructor reckoned out. -/
noncomputable def cx_c2 (H : cx_H) : Bool :=
  cond (mPts.all fun p => cond (Nat.blt p.1 480) true (cx_for p.2.length fun j => match p.2.getD j none with
    | some v => cx_is 480 H p.1 j (Int.ofNat v)
    | none => true))
  (cond (cx_for 8 fun i => cond (cx_is 480 H 481 i (-1)) (cx_is 480 H 482 i 0) false)
  (cond (cx_for 12 fun i => cx_is 480 H 512 i 0)
  (cond (cx_for 3 fun X => cond (cx_for 3 fun j => cx_is 480 H 503 (3 * X + j) 0) (cond (cx_is 480 H 524 X 0) (cond (cx_is 480 H 502 X 0) (cond (cx_is 480 H 498 X 0) (cond (cx_is 480 H 492 X 36) (cx_for 36 fun i => cond (cx_is 480 H 490 (48 * X + i) (D0.1.getD i 0)) (cond (cx_is 480 H 491 (48 * X + i) (D0.2.1.getD i 0)) (cond (cx_is 480 H 493 (48 * X + i) ((w1 0 D0.2.1).getD i 0)) (cond (cx_is 480 H 494 (48 * X + i) ((w2 1 D0.2.1).getD i 0)) (cx_is 480 H 495 (48 * X + i) ((w3 1 D0.2.1).getD i 0)) false) false) false) false) false) false) false) false) false)
  (cond (cx_for 24 fun i => cond (cx_is 480 H 516 i 0) (cond (cx_is 480 H 517 i 0) (cond (cx_is 480 H 521 i 0) (cx_is 480 H 519 i 0) false) false) false)
  (cond (cx_for 30 fun i => cx_is 480 H 529 i 0)
  (cond (cx_is 480 H 480 4 0) (cond (cx_is 480 H 480 6 (-1)) (cond (cx_is 480 H 480 11 0) (cond (cx_is 480 H 480 51 0) (cond (cx_is 480 H 480 60 0) (cond (cx_is 480 H 480 67 0) (cond (cx_is 480 H 480 68 12) (cx_is 480 H 480 69 10) false) false) false) false) false) false) false) false) false) false) false) false) false
set_option maxRecDepth 100000 in
theorem cx_k2_ok : cx_fin (cx_run cx_k0 480 20000 207 0 (mentry [mP (some 480)] (mN 207)) [] (481, cx_st 10 (.num 0) 480 (cx_bl 10 0 1 (mfd 11)))) 533 cx_c2 = true := by decide +kernel
