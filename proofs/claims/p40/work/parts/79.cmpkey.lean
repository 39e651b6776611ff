/-! Keys compare as the rows on the levels do. -/
theorem cmpL_app : ∀ (p a b : List Int), cmpL (p ++ a) (p ++ b) = cmpL a b
  | [], _, _ => rfl
  | x :: p, a, b => by
    show (if x = x then _ else _) = _
    rw [if_pos rfl]
    exact cmpL_app p a b
theorem cmpL_gt {x y : Int} (h : y < x) (a b : List Int) : cmpL (x :: a) (y :: b) = 1 := by
  show (if x = y then _ else _) = _
  rw [if_neg (by omega), if_neg (by omega)]
theorem cmpL_lt {x y : Int} (h : x < y) (a b : List Int) : cmpL (x :: a) (y :: b) = -1 := by
  show (if x = y then _ else _) = _
  rw [if_neg (by omega), if_pos h]
theorem cmpL_same (x : Int) (a b : List Int) : cmpL (x :: a) (x :: b) = cmpL a b := by
  show (if x = x then _ else _) = _
  rw [if_pos rfl]
theorem runB_big {l : Bool} {n : Nat} (h : 30 < n) : runB l n = 33 :: runB l (n - 30) := by rw [runB, if_pos h]
theorem runB_mid {l : Bool} {n : Nat} (h : ¬ 30 < n) (h0 : 0 < n) : runB l n = [if l = true then (n : Int) + 1 else 64 - (n : Int)] := by rw [runB, if_neg h, if_pos h0]
theorem runB_zero (l : Bool) : runB l 0 = [] := by rw [runB, if_neg (by decide), if_neg (by decide)]
theorem run_gt (l : Bool) (w : Int) (hw : 2 ≤ w) (A X : List Int) : ∀ (n m : Nat), n < m → cmpL (runB false n ++ (64 + w) :: A) (runB l m ++ X) = 1 := by
  intro n
  induction n using Nat.strongRecOn with
  | ind n ih =>
    intro m hm
    by_cases c1 : 30 < n
    · rw [runB_big c1, runB_big (show 30 < m by omega), List.cons_append, List.cons_append, cmpL_same]
      exact ih (n - 30) (by omega) (m - 30) (by omega)
    · by_cases c0 : 0 < n
      · rw [runB_mid c1 c0, if_neg (by simp)]
        by_cases c2 : 30 < m
        · rw [runB_big c2]
          exact cmpL_gt (by omega) _ _
        · rw [runB_mid c2 (by omega)]
          exact cmpL_gt (by split <;> omega) _ _
      · rw [show n = 0 by omega, runB_zero, List.nil_append]
        by_cases c2 : 30 < m
        · rw [runB_big c2]
          exact cmpL_gt (by omega) _ _
        · rw [runB_mid c2 (by omega)]
          exact cmpL_gt (by split <;> omega) _ _
theorem run_lt (l : Bool) (A X : List Int) : ∀ (n m : Nat), n < m → cmpL (runB true n ++ 1 :: A) (runB l m ++ X) = -1 := by
  intro n
  induction n using Nat.strongRecOn with
  | ind n ih =>
    intro m hm
    by_cases c1 : 30 < n
    · rw [runB_big c1, runB_big (show 30 < m by omega), List.cons_append, List.cons_append, cmpL_same]
      exact ih (n - 30) (by omega) (m - 30) (by omega)
    · by_cases c0 : 0 < n
      · rw [runB_mid c1 c0, if_pos rfl]
        by_cases c2 : 30 < m
        · rw [runB_big c2]
          exact cmpL_lt (by omega) _ _
        · rw [runB_mid c2 (by omega)]
          exact cmpL_lt (by split <;> omega) _ _
      · rw [show n = 0 by omega, runB_zero, List.nil_append]
        by_cases c2 : 30 < m
        · rw [runB_big c2]
          exact cmpL_lt (by omega) _ _
        · rw [runB_mid c2 (by omega)]
          exact cmpL_lt (by split <;> omega) _ _
theorem run_end (w : Int) (hw : 2 ≤ w) (A B : List Int) : ∀ (n : Nat), cmpL (runB true n ++ 1 :: A) (runB false n ++ (64 + w) :: B) = -1 := by
  intro n
  induction n using Nat.strongRecOn with
  | ind n ih =>
    by_cases c1 : 30 < n
    · rw [runB_big c1, runB_big c1, List.cons_append, List.cons_append, cmpL_same]
      exact ih (n - 30) (by omega)
    · by_cases c0 : 0 < n
      · rw [runB_mid c1 c0, runB_mid c1 c0, if_pos rfl, if_neg (by simp)]
        exact cmpL_lt (by omega) _ _
      · rw [show n = 0 by omega, runB_zero, runB_zero, List.nil_append, List.nil_append]
        exact cmpL_lt (by omega) _ _
theorem runs_head (t : List Int) : ∀ (s : List Int) (n : Nat), ∃ (l : Bool) (m : Nat) (X : List Int), n ≤ m ∧ runsB n s ++ 1 :: t = runB l m ++ X
  | [], n => ⟨true, n, 1 :: t, Nat.le_refl _, rfl⟩
  | y :: s, n => by
    unfold runsB
    split
    · obtain ⟨l, m, X, h1, h2⟩ := runs_head t s (n + 1)
      exact ⟨l, m, X, by omega, h2⟩
    · exact ⟨false, n, (64 + y) :: runsB 0 s ++ 1 :: t, Nat.le_refl _, by simp⟩
theorem runsB_one (n : Nat) (s : List Int) : runsB n (1 :: s) = runsB (n + 1) s := by
  show (if (1 : Int) = 1 then _ else _) = _
  rw [if_pos rfl]
theorem runsB_big {y : Int} (hy : 2 ≤ y) (n : Nat) (s : List Int) : runsB n (y :: s) = runB false n ++ (64 + y) :: runsB 0 s := by
  show (if y = 1 then _ else _) = _
  rw [if_neg (by omega)]
theorem cmp_runs (t t' : List Int) : ∀ (r s : List Int) (n : Nat), (∀ w ∈ r, 1 ≤ w) → (∀ w ∈ s, 1 ≤ w) → cmpL (runsB n r ++ 1 :: t) (runsB n s ++ 1 :: t') = if r = s then cmpL t t' else cmpL r s
  | [], [], n, _, _ => by
    rw [if_pos rfl, cmpL_app, cmpL_same]
  | [], y :: s, n, _, hs => by
    have hy := hs y List.mem_cons_self
    rw [if_neg (by simp)]
    by_cases e : y = 1
    · subst e
      rw [runsB_one]
      obtain ⟨l, m, X, h1, h2⟩ := runs_head t' s (n + 1)
      rw [h2]
      exact run_lt l t X n m (by omega)
    · rw [runsB_big (by omega), List.append_assoc]
      exact run_end y (by omega) t _ n
  | x :: r, [], n, hr, _ => by
    have hx := hr x List.mem_cons_self
    rw [if_neg (by simp), cmpL_swap]
    by_cases e : x = 1
    · subst e
      rw [runsB_one]
      obtain ⟨l, m, X, h1, h2⟩ := runs_head t r (n + 1)
      rw [h2, show runsB n [] = runB true n from rfl, run_lt l t' X n m (by omega)]
      rfl
    · rw [runsB_big (by omega), List.append_assoc, show runsB n [] = runB true n from rfl, List.cons_append, run_end x (by omega) t' _ n]
      rfl
  | x :: r, y :: s, n, hr, hs => by
    have hx := hr x List.mem_cons_self
    have hy := hs y List.mem_cons_self
    have ih := fun n => cmp_runs t t' r s n (fun w hw => hr w (List.mem_cons_of_mem _ hw)) (fun w hw => hs w (List.mem_cons_of_mem _ hw))
    by_cases e : x = y
    · subst e
      have e2 : (if x :: r = x :: s then cmpL t t' else cmpL (x :: r) (x :: s)) = if r = s then cmpL t t' else cmpL r s := by
        by_cases g : r = s
        · rw [if_pos g, if_pos (by rw [g])]
        · rw [if_neg g, if_neg (fun h => g (by injection h)), cmpL_same]
      rw [e2]
      by_cases e1 : x = 1
      · subst e1
        rw [runsB_one, runsB_one]
        exact ih (n + 1)
      · rw [runsB_big (by omega), runsB_big (by omega), List.append_assoc, List.append_assoc, cmpL_app, List.cons_append, List.cons_append, cmpL_same]
        exact ih 0
    · rw [if_neg (fun h => e (by injection h))]
      by_cases e1 : x = 1
      · subst e1
        rw [runsB_one, runsB_big (by omega), cmpL_swap, List.append_assoc, List.cons_append]
        obtain ⟨l, m, X, h1, h2⟩ := runs_head t r (n + 1)
        rw [h2, run_gt l y (by omega) _ X n m (by omega), cmpL_lt (by omega)]
      · by_cases e3 : y = 1
        · subst e3
          rw [runsB_one, runsB_big (by omega), List.append_assoc, List.cons_append]
          obtain ⟨l, m, X, h1, h2⟩ := runs_head t' s (n + 1)
          rw [h2, run_gt l x (by omega) _ X n m (by omega), cmpL_gt (by omega)]
        · rw [runsB_big (by omega), runsB_big (by omega), List.append_assoc, List.append_assoc, cmpL_app, List.cons_append, List.cons_append]
          by_cases c : x < y
          · rw [cmpL_lt (by omega), cmpL_lt c]
          · rw [cmpL_gt (by omega), cmpL_gt (by omega)]
theorem cmp_raise (t t' : List Int) : ∀ (r s : List Int), (∀ w ∈ r, 1 ≤ w) → (∀ w ∈ s, 1 ≤ w) → cmpL (r.map (fun w => w + 1) ++ 1 :: t) (s.map (fun w => w + 1) ++ 1 :: t') = if r = s then cmpL t t' else cmpL r s
  | [], [], _, _ => by
    rw [if_pos rfl]
    exact cmpL_same 1 t t'
  | [], y :: s, _, hs => by
    have hy := hs y List.mem_cons_self
    rw [if_neg (by simp)]
    exact cmpL_lt (show (1 : Int) < y + 1 by omega) _ _
  | x :: r, [], hr, _ => by
    have hx := hr x List.mem_cons_self
    rw [if_neg (by simp)]
    exact cmpL_gt (show (1 : Int) < x + 1 by omega) _ _
  | x :: r, y :: s, hr, hs => by
    have ih := cmp_raise t t' r s (fun w hw => hr w (List.mem_cons_of_mem _ hw)) (fun w hw => hs w (List.mem_cons_of_mem _ hw))
    by_cases e : x = y
    · subst e
      rw [List.map_cons, List.map_cons, List.cons_append, List.cons_append, cmpL_same, ih]
      by_cases g : r = s
      · rw [if_pos g, if_pos (by rw [g])]
      · rw [if_neg g, if_neg (fun h => g (by injection h)), cmpL_same]
    · rw [if_neg (fun h => e (by injection h)), List.map_cons, List.map_cons, List.cons_append, List.cons_append]
      by_cases c : x < y
      · rw [cmpL_lt (by omega), cmpL_lt c]
      · rw [cmpL_gt (by omega), cmpL_gt (by omega)]
theorem cmp_keyLv {sh bw : Int} {e1 e2 : List El} (h1 : okEls e1) (h2 : okEls e2) : ∀ (d : Nat) (lv : Int), cmpL (keyLv sh bw e1 d lv) (keyLv sh bw e2 d lv) = cmpLv sh bw e1 e2 d lv
  | 0, _ => rfl
  | d + 1, lv => by
    have ih := cmp_keyLv (sh := sh) (bw := bw) h1 h2 d (lv + 1)
    have k1 := fun w hw => (lvRow_in h1 lv sh bw w hw).1
    have k2 := fun w hw => (lvRow_in h2 lv sh bw w hw).1
    unfold keyLv cmpLv lvKey
    rw [List.append_assoc, List.append_assoc, List.singleton_append, List.singleton_append]
    generalize lvRow lv sh bw e1 = R1 at *
    generalize lvRow lv sh bw e2 = R2 at *
    have key : cmpL ((if lv = 2 ∨ lv = 3 then runsB 0 R1 else R1.map (fun w => w + 1)) ++ 1 :: keyLv sh bw e1 d (lv + 1)) ((if lv = 2 ∨ lv = 3 then runsB 0 R2 else R2.map (fun w => w + 1)) ++ 1 :: keyLv sh bw e2 d (lv + 1)) = if R1 = R2 then cmpL (keyLv sh bw e1 d (lv + 1)) (keyLv sh bw e2 d (lv + 1)) else cmpL R1 R2 := by
      by_cases c : lv = 2 ∨ lv = 3
      · rw [if_pos c, if_pos c]
        exact cmp_runs _ _ R1 R2 0 k1 k2
      · rw [if_neg c, if_neg c]
        exact cmp_raise _ _ R1 R2 k1 k2
    rw [key, ih]
    by_cases g : R1 = R2
    · rw [if_pos g, if_neg (fun h => h ((cmpL_eq R1 R2).mpr g))]
    · rw [if_neg g, if_pos (fun h => g ((cmpL_eq R1 R2).mp h))]
theorem cmp_keyOf {D : TD} (hD : okTD D) {o : Nat → Int} {d : Nat} {ss ys : List Int} (h40 : okA40 ss) (hls : ss.length ≤ 31) (h40b : okA40 ys) (hlb : ys.length ≤ 31) : cmpLv (o 0) (o 1) (gthR D (o 2) ss).1 (gthR D (o 2) ys).1 d 1 = cmpL (keyOf D o d ss) (keyOf D o d ys) :=
  (cmp_keyLv (gthR_ok hD h40 hls) (gthR_ok hD h40b hlb) d 1).symm
