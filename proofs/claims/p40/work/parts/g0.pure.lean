/-! Texts apart: marks in order, how many elements there can be; keys: how long, how they compare. -/
/-- a sign's greatest number of elements -/
def wT : List Int → Nat
  | [] => 0
  | s :: l => (if isMrk s then 1 else 3) + wT l
/-- marks in order, told backwards -/
def mkO : List Int → Prop
  | [] => True
  | a :: l => (clsOf a = 0 ∨ clsOf (l.headD 0) ≤ clsOf a) ∧ mkO l
/-- a text as it is taken apart -/
def okT (t : List Int) : Prop := wT t ≤ 50 ∧ mkO t.reverse
section PURE
variable {B M : Int → Int} {ds t l l2 ss ys : List Int} {m s x y z : Int} {D : TD} {bv sh bw : Int} {S : GS} {p d k n : Nat} {o : Nat → Int} {els : List El}
theorem wT_app : ∀ (l l2 : List Int), wT (l ++ l2) = wT l + wT l2 := by
  intro l
  induction l with
  | nil => intro l2; simp [wT]
  | cons a l ih =>
    intro l2
    show (if isMrk a then 1 else 3) + wT (l ++ l2) = ((if isMrk a then 1 else 3) + wT l) + wT l2
    rw [ih]
    omega
theorem wT_rev : ∀ (l : List Int), wT l.reverse = wT l := by
  intro l
  induction l with
  | nil => rfl
  | cons a l ih =>
    rw [List.reverse_cons, wT_app, ih]
    show wT l + ((if isMrk a then 1 else 3) + 0) = (if isMrk a then 1 else 3) + wT l
    omega
theorem wT_sink (m : Int) : ∀ (l : List Int), wT (sink m l) = (if isMrk m then 1 else 3) + wT l := by
  intro l
  induction l with
  | nil => rfl
  | cons a l ih =>
    unfold sink
    split
    · show (if isMrk a then 1 else 3) + wT (sink m l) = (if isMrk m then 1 else 3) + ((if isMrk a then 1 else 3) + wT l)
      rw [ih]
      omega
    · rfl
theorem wT_fold : ∀ (xs l : List Int), wT (xs.foldl (fun p x => sink x p) l) = wT l + wT xs := by
  intro xs
  induction xs with
  | nil => intro l; rfl
  | cons a xs ih =>
    intro l
    show wT (xs.foldl (fun p x => sink x p) (sink a l)) = wT l + ((if isMrk a then 1 else 3) + wT xs)
    rw [ih, wT_sink]
    omega
theorem wT_sorted (xs : List Int) : wT (sorted1 xs) = wT xs := by
  unfold sorted1
  rw [wT_rev, wT_fold]
  show 0 + wT xs = _
  omega
theorem wT_one (s : Int) : wT [s] ≤ 3 ∧ (isMrk s → wT [s] = 1) := by
  unfold wT
  unfold wT
  constructor
  · split <;> omega
  · intro h
    rw [if_pos h]
theorem wT_apart1 (hB : okB B M) (hs : okS B s) : wT (apart1 B M s) ≤ 5 := by
  unfold apart1
  dsimp only
  by_cases c : B s = -1
  · have e : (if B s ≠ -1 then B s else s) = s := if_neg (fun g => g c)
    rw [e, if_neg (fun g => g c), if_neg (fun g => g c), List.append_nil]
    exact Nat.le_trans (wT_one s).1 (by omega)
  · obtain ⟨k1, k2, k3⟩ := hB s hs.1 hs.2.1 c
    rw [if_pos c, if_pos c, wT_app]
    have h1 := (wT_one (M s)).2 k3
    have h2 : wT (if B (B s) ≠ -1 then [B (B s), M (B s)] else [B s]) ≤ 4 := by
      split
      · rename_i c2
        obtain ⟨q1, q2, q3⟩ := hB (B s) k1.1 k1.2.1 c2
        have h3 := (wT_one (M (B s))).2 q3
        have h4 := (wT_one (B (B s))).1
        have h5 := wT_app [B (B s)] [M (B s)]
        rw [show [B (B s)] ++ [M (B s)] = [B (B s), M (B s)] from rfl] at h5
        omega
      · have := (wT_one (B s)).1
        omega
    omega
theorem wT_flat (hB : okB B M) : ∀ (ds : List Int), (∀ s ∈ ds, okS B s) → wT (ds.flatMap (apart1 B M)) ≤ 5 * ds.length := by
  intro ds
  induction ds with
  | nil => intro _; exact Nat.le_refl 0
  | cons a ds ih =>
    intro h
    rw [List.flatMap_cons, wT_app, List.length_cons]
    have h1 := wT_apart1 hB (h a List.mem_cons_self)
    have h2 := ih (fun s hs => h s (List.mem_cons_of_mem _ hs))
    omega
theorem mkO_sink (m : Int) : ∀ (l : List Int), mkO l → mkO (sink m l) ∧ ((sink m l).headD 0 = m ∨ (sink m l).headD 0 = l.headD 0) := by
  intro l
  induction l with
  | nil =>
    intro _
    refine ⟨⟨Or.inr ?_, trivial⟩, Or.inl rfl⟩
    show clsOf 0 ≤ clsOf m
    have := (clsOf_in m).1
    have h0 : clsOf 0 = 0 := by decide
    omega
  | cons a l ih =>
    intro h
    unfold sink
    split
    · rename_i c
      obtain ⟨k1, k2⟩ := ih h.2
      refine ⟨⟨?_, k1⟩, Or.inr rfl⟩
      rcases k2 with k2 | k2
      · rw [k2]
        exact Or.inr (Int.le_of_lt c.2)
      · rw [k2]
        exact h.1
    · rename_i c
      refine ⟨⟨?_, h⟩, Or.inl rfl⟩
      show clsOf m = 0 ∨ clsOf a ≤ clsOf m
      by_cases hm : isMrk m
      · right
        have : ¬ clsOf m < clsOf a := fun c2 => c ⟨hm, c2⟩
        omega
      · left
        unfold clsOf
        rw [if_neg hm]
theorem mkO_fold : ∀ (xs l : List Int), mkO l → mkO (xs.foldl (fun p x => sink x p) l) := by
  intro xs
  induction xs with
  | nil => intro l h; exact h
  | cons a xs ih => intro l h; exact ih _ (mkO_sink a l h).1
theorem okT_apA (hB : okB B M) (hs : ∀ s ∈ ds, okS B s) (hl : ds.length ≤ 10) : okT (apA B M ds) := by
  unfold apA
  refine ⟨?_, ?_⟩
  · rw [wT_sorted]
    have := wT_flat hB ds hs
    omega
  · unfold sorted1
    rw [List.reverse_reverse]
    exact mkO_fold _ [] trivial
/-- by places: a mark isn't of a lesser class than the one ahead of it -/
theorem mkO_get : ∀ (l : List Int), mkO l → ∀ i, i + 1 < l.length → clsOf (l.getD i 0) = 0 ∨ clsOf (l.getD (i + 1) 0) ≤ clsOf (l.getD i 0) := by
  intro l
  induction l with
  | nil => intro _ i hi; simp at hi
  | cons a l ih =>
    intro h i hi
    match i with
    | 0 =>
      match l, h with
      | [], h => simp at hi
      | b :: l, h => exact h.1
    | i + 1 => exact ih h.2 i (by rw [List.length_cons] at hi; omega)
theorem okT_get (h : okT t) (hk : k + 1 < t.length) : clsOf (t.getD (k + 1) 0) = 0 ∨ clsOf (t.getD k 0) ≤ clsOf (t.getD (k + 1) 0) := by
  have h1 := mkO_get _ h.2 (t.length - 2 - k) (by rw [List.length_reverse]; omega)
  have e : ∀ j, j < t.length → t.reverse.getD (t.length - 1 - j) 0 = t.getD j 0 := fun j hj => by
    rw [List.getD_eq_getElem?_getD, List.getD_eq_getElem?_getD, List.getElem?_reverse (by omega)]
    rw [show t.length - 1 - (t.length - 1 - j) = j by omega]
  have e1 := e (k + 1) hk
  have e2 := e k (by omega)
  rw [show t.length - 1 - (k + 1) = t.length - 2 - k by omega] at e1
  rw [show t.length - 1 - k = t.length - 2 - k + 1 by omega] at e2
  rw [e1, e2] at h1
  exact h1
theorem wT_drop : ∀ (n : Nat) (l : List Int), wT (l.drop n) ≤ wT l := by
  intro n l
  have h := wT_app (l.take n) (l.drop n)
  rw [List.take_append_drop] at h
  omega
theorem wT_digs : ∀ (l : List Int), (∀ x ∈ l, isDig x) → wT l = 3 * l.length := by
  intro l
  induction l with
  | nil => intro _; rfl
  | cons a l ih =>
    intro h
    unfold wT
    have ha := h a List.mem_cons_self
    rw [ih (fun x hx => h x (List.mem_cons_of_mem _ hx)), if_neg (by omega), List.length_cons]
    omega
theorem gStep_w (hp : p < ss.length) (v : Int) : (gStep D bv ss p v S).2.1.length + wT (ss.drop (p + (gStep D bv ss p v S).1)) ≤ S.1.length + wT (ss.drop p) := by
  unfold gStep
  split
  · rename_i c
    dsimp only
    rw [List.length_append, List.length_singleton, drop_get hp]
    show _ ≤ S.1.length + ((if isMrk (ss.getD p 0) then 1 else 3) + wT (ss.drop (p + 1)))
    rw [if_pos c]
    omega
  · rename_i c
    split
    · rename_i c2
      dsimp only
      rw [List.length_append, ← List.drop_drop]
      have h1 := numEls_len D (digs (ss.drop p))
      have h2 := wT_app (digs (ss.drop p)) ((ss.drop p).drop (digs (ss.drop p)).length)
      rw [← digs_split] at h2
      have h3 := wT_digs (digs (ss.drop p)) (fun x hx => digs_mem hx)
      have h4 : 1 ≤ (digs (ss.drop p)).length := by
        rw [drop_get hp, digs_cons c2.1, List.length_cons]
        omega
      omega
    · dsimp only
      rw [List.length_append]
      have h1 := elsOf_len D (itmC D ss p v S.2.1).1 (b2 (isBlk (ss.getD p 0)))
      have h2 := (lnOf_in D (l := ss.drop p) (by rw [drop_get hp]; exact List.cons_ne_nil _ _)).1
      have h3 : wT (ss.drop p) = 3 + wT (ss.drop (p + 1)) := by
        rw [drop_get hp]
        show (if isMrk (ss.getD p 0) then 1 else 3) + wT (ss.drop (p + 1)) = _
        rw [if_neg c]
      have h4 := wT_drop (lnOf D (ss.drop p) - 1) (ss.drop (p + 1))
      rw [List.drop_drop, show p + 1 + (lnOf D (ss.drop p) - 1) = p + lnOf D (ss.drop p) by omega] at h4
      omega
theorem gth_w : ∀ (f p : Nat) (S : GS), p ≤ ss.length → (gth D bv ss f p S).1.length ≤ S.1.length + wT (ss.drop p) := by
  intro f
  induction f with
  | zero => intro p S _; exact Nat.le_add_right _ _
  | succ f ih =>
    intro p S hp
    unfold gth
    split
    · exact Nat.le_add_right _ _
    · rename_i c
      split
      · have h1 := ih (p + 1) S (by omega)
        have h2 := wT_drop 1 (ss.drop p)
        rw [List.drop_drop] at h2
        omega
      · have h1 := ih (p + (gStep D bv ss p p S).1) (gStep D bv ss p p S).2 (gStep_adv (by omega)).2.1
        have h2 := gStep_w (D := D) (bv := bv) (S := S) (ss := ss) (p := p) (by omega) (p : Int)
        omega
theorem gthR_w (D : TD) (bv : Int) (ss : List Int) : (gthR D bv ss).1.length ≤ wT ss := by
  have := gth_w (D := D) (bv := bv) (ss := ss) (ss.length + 1) 0 ([], List.replicate ss.length (-1), 0) (Nat.zero_le _)
  rw [List.drop_zero] at this
  unfold gthR
  simpa using this
theorem keyLv_len (sh bw : Int) (els : List El) : ∀ (d : Nat) (lv : Int), (keyLv sh bw els d lv).length ≤ d * (els.length + 1) := by
  intro d
  induction d with
  | zero => intro lv; exact Nat.zero_le _
  | succ d ih =>
    intro lv
    unfold keyLv
    rw [List.length_append]
    have h1 := lvKey_len lv sh bw els
    have h2 := ih (lv + 1)
    have h3 : (d + 1) * (els.length + 1) = d * (els.length + 1) + (els.length + 1) := Nat.succ_mul _ _
    omega
theorem keyOf_len (h : okT ss) (hd : d ≤ 4) : (keyOf D o d ss).length ≤ 204 := by
  unfold keyOf
  have h1 := keyLv_len (o 0) (o 1) (gthR D (o 2) ss).1 d 1
  have h2 := gthR_w D (o 2) ss
  have h3 := h.1
  have h4 : d * ((gthR D (o 2) ss).1.length + 1) ≤ 4 * 51 := Nat.mul_le_mul hd (by omega)
  omega
theorem runB_pos (l : Bool) : ∀ (n : Nat), ∀ x ∈ runB l n, 1 ≤ x ∧ x ≤ 200 := by
  intro n
  induction n using Nat.strongRecOn with
  | _ n ih =>
    by_cases c : 30 < n
    · rw [runB_big c]
      intro x hx
      rcases List.mem_cons.mp hx with e | hx
      · omega
      · exact ih (n - 30) (by omega) x hx
    · by_cases c0 : 0 < n
      · rw [runB_mid c c0]
        intro x hx
        rw [List.mem_singleton.mp hx]
        split <;> omega
      · rw [show n = 0 by omega, runB_zero]
        intro x hx
        cases hx
theorem runsB_pos : ∀ (ws : List Int) (n : Nat), (∀ w ∈ ws, 1 ≤ w ∧ w ≤ 100) → ∀ x ∈ runsB n ws, 1 ≤ x ∧ x ≤ 200 := by
  intro ws
  induction ws with
  | nil => intro n _ x hx; exact runB_pos true n x hx
  | cons w ws ih =>
    intro n h x hx
    have hw := h w List.mem_cons_self
    have h2 : ∀ w ∈ ws, 1 ≤ w ∧ w ≤ 100 := fun w hw => h w (List.mem_cons_of_mem _ hw)
    unfold runsB at hx
    split at hx
    · exact ih _ h2 x hx
    · rcases List.mem_append.mp hx with hx | hx
      · exact runB_pos false n x hx
      · rcases List.mem_cons.mp hx with e | hx
        · omega
        · exact ih _ h2 x hx
theorem keyLv_pos (he : okEls els) : ∀ (d : Nat) (lv : Int), ∀ x ∈ keyLv sh bw els d lv, 1 ≤ x ∧ x ≤ 200 := by
  intro d
  induction d with
  | zero => intro lv x hx; cases hx
  | succ d ih =>
    intro lv x hx
    unfold keyLv at hx
    rcases List.mem_append.mp hx with hx | hx
    · unfold lvKey at hx
      rcases List.mem_append.mp hx with hx | hx
      · split at hx
        · exact runsB_pos _ 0 (fun w hw => lvRow_in he lv sh bw w hw) x hx
        · obtain ⟨w, hw, rfl⟩ := List.mem_map.mp hx
          have := lvRow_in he lv sh bw w hw
          omega
      · rw [List.mem_singleton.mp hx]
        omega
    · exact ih (lv + 1) x hx
theorem keyOf_pos (hD : okTD D) (h40 : okA40 ss) (hls : ss.length ≤ 31) : ∀ x ∈ keyOf D o d ss, 1 ≤ x ∧ x ≤ 200 := by
  unfold keyOf
  exact keyLv_pos (gthR_ok hD h40 hls) d 1
/-! comparing -/
theorem cmpL_anti : ∀ (a b : List Int), cmpL b a = -cmpL a b := by
  intro a
  induction a with
  | nil => intro b; cases b <;> rfl
  | cons x a ih =>
    intro b
    cases b with
    | nil => rfl
    | cons y b =>
      unfold cmpL
      by_cases c : x = y
      · rw [if_pos c, if_pos c.symm]
        exact ih b
      · rw [if_neg c, if_neg (fun e => c e.symm)]
        by_cases c2 : x < y
        · rw [if_pos c2, if_neg (by omega)]
          rfl
        · rw [if_neg c2, if_pos (by omega)]
theorem cmpLv_up {e1 e2 : List El} : ∀ (d : Nat) (lv : Int), cmpLv sh bw e1 e2 d lv ≠ 0 → cmpLv sh bw e1 e2 (d + 1) lv = cmpLv sh bw e1 e2 d lv := by
  intro d
  induction d with
  | zero => intro lv h; exact absurd rfl h
  | succ d ih =>
    intro lv h
    have e9 : ∀ d', cmpLv sh bw e1 e2 (d' + 1) lv = if cmpL (lvRow lv sh bw e1) (lvRow lv sh bw e2) ≠ 0 then cmpL (lvRow lv sh bw e1) (lvRow lv sh bw e2) else cmpLv sh bw e1 e2 d' (lv + 1) := fun _ => rfl
    rw [e9 (d + 1), e9 d]
    rw [e9 d] at h
    by_cases c : cmpL (lvRow lv sh bw e1) (lvRow lv sh bw e2) ≠ 0
    · rw [if_pos c, if_pos c]
    · rw [if_neg c] at h
      rw [if_neg c, if_neg c]
      exact ih (lv + 1) h
theorem cmp_up (hD : okTD D) (h1 : okA40 ss) (h2 : ss.length ≤ 31) (h3 : okA40 ys) (h4 : ys.length ≤ 31) (h : cmpL (keyOf D o d ss) (keyOf D o d ys) ≠ 0) : cmpL (keyOf D o (d + 1) ss) (keyOf D o (d + 1) ys) = cmpL (keyOf D o d ss) (keyOf D o d ys) := by
  rw [← cmp_keyOf hD h1 h2 h3 h4] at h ⊢
  rw [← cmp_keyOf hD h1 h2 h3 h4]
  exact cmpLv_up d 1 h
end PURE
