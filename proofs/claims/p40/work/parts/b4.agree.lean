/-! Bases and marks that agree; a sign composed. -/
def fUp (f : Int → Int) (i x : Int) : Int → Int := fun s => if s = i then x else f s
section AGREE
variable {B M B' M' : Int → Int} {F F' : Int → Int → Int} {x y z i s b m : Int} {ds xs ys : List Int} {n k : Nat} {σ : Sg}
theorem tog_ag (hF : ∀ c m, c ≠ -1 → F' c m = F c m) : ∀ (xs : List Int), tog F' none xs = tog F none xs ∧ ∀ c mo acc, c ≠ -1 → tog F' (some (c, mo, acc)) xs = tog F (some (c, mo, acc)) xs
  | [] => by
    refine ⟨?_, fun c mo acc _ => ?_⟩
    · unfold tog
      rfl
    · unfold tog
      rfl
  | x :: xs => by
    obtain ⟨i1, i2⟩ := tog_ag hF xs
    refine ⟨?_, fun c mo acc hc => ?_⟩
    · unfold tog
      rw [i1]
      by_cases g : isLet x
      · rw [if_pos g, if_pos g]
        exact i2 _ _ _ (by omega)
      · rw [if_neg g, if_neg g]
    · unfold tog
      rw [hF c x hc, i1]
      by_cases g : isMrk x
      · rw [if_pos g, if_pos g]
        by_cases g2 : mo < clsOf x ∧ F c x ≠ -1
        · rw [if_pos g2, if_pos g2]
          exact i2 _ _ _ g2.2
        · rw [if_neg g2, if_neg g2]
          exact i2 _ _ _ hc
      · rw [if_neg g, if_neg g]
        by_cases g2 : isLet x
        · rw [if_pos g2, if_pos g2, i2 _ _ _ (by omega)]
        · rw [if_neg g2, if_neg g2]
/-! What is taken apart is a row of letters, marks and the other plain signs. -/
theorem apart1_in (hB : okB B M) (hs : okS B s) : (∀ y ∈ apart1 B M s, 0 ≤ y ∧ y < 40) ∧ 1 ≤ (apart1 B M s).length := by
  unfold apart1
  dsimp only
  have h2 := hs.2.2
  have h0 := hs.1
  by_cases g : B s = -1
  · simp only [ne_eq, g, not_true_eq_false, if_false, List.append_nil]
    refine ⟨fun y hy => ?_, Nat.le_refl 1⟩
    have e := List.mem_singleton.mp hy
    have : ¬ 40 ≤ s := fun c => h2 c g
    omega
  · obtain ⟨k1, k2, k3⟩ := hB s hs.1 hs.2.1 g
    have k4 := k1.1
    have k5 := k1.2.2
    by_cases g2 : B (B s) = -1
    · simp only [ne_eq, g, not_false_eq_true, if_true, g2, not_true_eq_false, if_false]
      refine ⟨fun y hy => ?_, by simp⟩
      have : ¬ 40 ≤ B s := fun c => k5 c g2
      rcases List.mem_append.mp hy with c | c
      · have := List.mem_singleton.mp c
        omega
      · have := List.mem_singleton.mp c
        omega
    · simp only [ne_eq, g, not_false_eq_true, if_true, g2]
      have k6 := k2 g2
      obtain ⟨q1, q2, q3⟩ := hB (B s) k1.1 k1.2.1 g2
      refine ⟨fun y hy => ?_, by simp⟩
      rcases List.mem_append.mp hy with c | c
      · rcases List.mem_cons.mp c with c | c
        · omega
        · have := List.mem_singleton.mp c
          omega
      · have := List.mem_singleton.mp c
        omega
theorem sink_mem : ∀ (ys : List Int), z ∈ sink m ys → z = m ∨ z ∈ ys
  | [], h => Or.inl (List.mem_singleton.mp h)
  | y :: ys, h => by
    unfold sink at h
    split at h
    · rcases List.mem_cons.mp h with g | g
      · exact Or.inr (g ▸ List.mem_cons_self)
      · rcases sink_mem ys g with g | g
        · exact Or.inl g
        · exact Or.inr (List.mem_cons_of_mem _ g)
    · exact List.mem_cons.mp h
theorem foldl_sink_mem : ∀ (xs p : List Int), z ∈ xs.foldl (fun p x => sink x p) p → z ∈ p ∨ z ∈ xs
  | [], _, h => Or.inl h
  | x :: xs, p, h => by
    rcases foldl_sink_mem xs (sink x p) h with g | g
    · rcases sink_mem p g with g | g
      · exact Or.inr (g ▸ List.mem_cons_self)
      · exact Or.inl g
    · exact Or.inr (List.mem_cons_of_mem _ g)
theorem sorted1_mem (h : z ∈ sorted1 xs) : z ∈ xs := by
  unfold sorted1 at h
  rcases foldl_sink_mem xs [] (List.mem_reverse.mp h) with g | g
  · cases g
  · exact g
theorem sorted1_len (xs : List Int) : (sorted1 xs).length = xs.length := by
  unfold sorted1
  rw [List.length_reverse, foldl_sink_len, List.length_nil, Nat.zero_add]
theorem flat_len (hB : okB B M) : ∀ (ds : List Int), (∀ s ∈ ds, okS B s) → ds.length ≤ (ds.flatMap (apart1 B M)).length ∧ (ds.flatMap (apart1 B M)).length ≤ 3 * ds.length
  | [], _ => ⟨Nat.le_refl _, Nat.le_refl _⟩
  | s :: ds, hs => by
    have i1 := flat_len hB ds (fun s' g => hs s' (List.mem_cons_of_mem _ g))
    have i2 := (apart1_in hB (hs s List.mem_cons_self)).2
    have i3 := apart1_len B M s
    rw [List.flatMap_cons, List.length_append, List.length_cons]
    omega
theorem okDr_apA (hB : okB B M) (hs : ∀ s ∈ ds, okS B s) (hl : ds.length ≤ 10) : okDr ds (apA B M ds) := by
  have h1 := flat_len hB ds hs
  have h2 := sorted1_len (ds.flatMap (apart1 B M))
  refine ⟨hl, ?_, ?_, ?_⟩
  · show (sorted1 _).length ≤ 30
    omega
  · intro z hz
    obtain ⟨s, g1, g2⟩ := List.mem_flatMap.mp (sorted1_mem hz)
    exact (apart1_in hB (hs s g1)).1 z g2
  · show sorted1 _ = [] ↔ ds = []
    constructor
    · intro g
      rw [g] at h2
      exact List.eq_nil_of_length_eq_zero (by rw [List.length_nil] at h2; omega)
    · intro g
      rw [g]
      rfl
theorem isSg_iff (hB : okBM B M) : isSg B x ↔ okS B x := by
  have h5 := hB.2.2.2.2
  constructor
  · intro g
    rcases g with g | g
    · exact ⟨g.1, by omega, fun c => by omega⟩
    · have c : 40 ≤ x ∧ x < 48 := Decidable.byContradiction fun c => g (h5 x c)
      exact ⟨by omega, c.2, fun _ => g⟩
  · intro g
    by_cases c : 40 ≤ x
    · exact Or.inr (g.2.2 c)
    · exact Or.inl ⟨g.1, by omega⟩
/-! A sign is composed. -/
theorem fUp_same : fUp B i x i = x := if_pos rfl
theorem fUp_ne (h : s ≠ i) : fUp B i x s = B s := if_neg h
theorem okS_up (hx : x ≠ -1) (hs : okS B s) : okS (fUp B i x) s := ⟨hs.1, hs.2.1, fun g => by
  by_cases e : s = i
  · rw [e, fUp_same]
    exact hx
  · rw [fUp_ne e]
    exact hs.2.2 g⟩
theorem okS_ne (hi : 40 ≤ i) (h0 : B i = -1) (hs : okS B s) : s ≠ i := fun e => by
  subst e
  exact hs.2.2 hi h0
theorem apart1_up (hB : okB B M) (hi : 40 ≤ i) (h0 : B i = -1) (hs : okS B s) : apart1 (fUp B i x) (fUp M i y) s = apart1 B M s := by
  have n1 := okS_ne hi h0 hs
  unfold apart1
  dsimp only
  by_cases g : B s = -1
  · simp only [ne_eq, fUp_ne n1, g, not_true_eq_false, if_false]
  · obtain ⟨k1, k2, k3⟩ := hB s hs.1 hs.2.1 g
    have n2 := okS_ne hi h0 k1
    by_cases g2 : B (B s) = -1
    · simp only [ne_eq, fUp_ne n1, g, not_false_eq_true, if_true, fUp_ne n2, g2, not_true_eq_false, if_false]
    · simp only [ne_eq, fUp_ne n1, g, not_false_eq_true, if_true, fUp_ne n2, g2]
theorem flat_up (hB : okB B M) (hi : 40 ≤ i) (h0 : B i = -1) : ∀ (ds : List Int), (∀ s ∈ ds, okS B s) → ds.flatMap (apart1 (fUp B i x) (fUp M i y)) = ds.flatMap (apart1 B M)
  | [], _ => rfl
  | s :: ds, hs => by
    rw [List.flatMap_cons, List.flatMap_cons, apart1_up hB hi h0 (hs s List.mem_cons_self), flat_up hB hi h0 ds (fun s' g => hs s' (List.mem_cons_of_mem _ g))]
theorem apA_up (hB : okB B M) (hi : 40 ≤ i) (h0 : B i = -1) (hs : ∀ s ∈ ds, okS B s) : apA (fUp B i x) (fUp M i y) ds = apA B M ds := by
  unfold apA
  rw [flat_up hB hi h0 ds hs]
theorem cofL_neg : ∀ {l : List Int}, (∀ s ∈ l, s ≠ -1) → cofL B M b m l = -1 → ∀ s ∈ l, ¬ (B s = b ∧ M s = m)
  | [], _, _, _, hs => nomatch hs
  | s0 :: l, hl, h, s, hs => by
    unfold cofL at h
    split at h
    · exact absurd h (hl s0 List.mem_cons_self)
    · rename_i g
      rcases List.mem_cons.mp hs with e | e
      · rw [e]
        exact g
      · exact cofL_neg (fun s' g' => hl s' (List.mem_cons_of_mem _ g')) h s e
theorem cof_neg (h : cof B M b m = -1) (h1 : 40 ≤ s) (h2 : s < 48) : ¬ (B s = b ∧ M s = m) := by
  refine cofL_neg (l := [40, 41, 42, 43, 44, 45, 46, 47]) (fun s' hs => ?_) h s ?_
  · simp only [List.mem_cons, List.not_mem_nil, or_false] at hs
    omega
  · simp only [List.mem_cons, List.not_mem_nil, or_false]
    omega
theorem cmOk_x (hB : okBM B M) (hc : cmOk B i x y) : okS B x ∧ x ≠ -1 := by
  rcases hc.2.1 with g | g
  · exact ⟨⟨g.1, by omega, fun c => by omega⟩, by omega⟩
  · have g2 : B x ≠ -1 := by omega
    have k := (isSg_iff hB).mp (Or.inr g2)
    exact ⟨k, by have := k.1; omega⟩
theorem okBM_up (hB : okBM B M) (hc : cmOk B i x y) (h0 : B i = -1) (h1 : cof B M x y = -1) (hx : in32 x) (hy : in32 y) : okBM (fUp B i x) (fUp M i y) := by
  obtain ⟨hb, hj, b3, b4, b5⟩ := hB
  obtain ⟨x1, x2⟩ := cmOk_x ⟨hb, hj, b3, b4, b5⟩ hc
  have hi := hc.1
  refine ⟨?_, ?_, ?_, ?_, ?_⟩
  · intro s s0 s8 hs
    by_cases e : s = i
    · rw [e, fUp_same, fUp_same]
      have n1 := okS_ne hi.1 h0 x1
      rw [fUp_ne n1]
      refine ⟨okS_up x2 x1, fun g => ?_, hc.2.2⟩
      rcases hc.2.1 with k | k
      · exact absurd (b5 x (by omega)) g
      · exact k
    · rw [fUp_ne e] at hs ⊢
      obtain ⟨k1, k2, k3⟩ := hb s s0 s8 hs
      rw [fUp_ne (okS_ne hi.1 h0 k1), fUp_ne e]
      exact ⟨okS_up x2 k1, k2, k3⟩
  · intro s s' p1 p2 p3 p4 hs e1 e2
    by_cases e : s = i
    · by_cases e' : s' = i
      · rw [e, e']
      · rw [e, fUp_same, fUp_ne e'] at e1
        rw [e, fUp_same, fUp_ne e'] at e2
        exact absurd ⟨e1.symm, e2.symm⟩ (cof_neg h1 p3 p4)
    · by_cases e' : s' = i
      · rw [e', fUp_same, fUp_ne e] at e1
        rw [e', fUp_same, fUp_ne e] at e2
        exact absurd ⟨e1, e2⟩ (cof_neg h1 p1 p2)
      · rw [fUp_ne e] at hs
        rw [fUp_ne e, fUp_ne e'] at e1 e2
        exact hj s s' p1 p2 p3 p4 hs e1 e2
  · intro s
    unfold fUp
    split
    · exact hx
    · exact b3 s
  · intro s
    unfold fUp
    split
    · exact hy
    · exact b4 s
  · intro s hs
    rw [fUp_ne (fun e => hs (by omega))]
    exact b5 s hs
theorem cnB_up (hi : 40 ≤ i) (h0 : B i = -1) (hx : x ≠ -1) : ∀ n : Nat, cnB (fUp B i x) n = cnB B n + (if i < 40 + (n : Int) then 1 else 0)
  | 0 => by
    rw [if_neg (by omega)]
    rfl
  | n + 1 => by
    have ih := cnB_up hi h0 hx n
    show cnB (fUp B i x) n + (if fUp B i x (40 + (n : Int)) ≠ -1 then 1 else 0) = cnB B n + (if B (40 + (n : Int)) ≠ -1 then 1 else 0) + (if i < 40 + ((n + 1 : Nat) : Int) then 1 else 0)
    rw [ih]
    by_cases e : 40 + (n : Int) = i
    · have g2 : i < 40 + ((n + 1 : Nat) : Int) := by omega
      rw [e, fUp_same, h0, if_pos hx, if_pos g2, if_neg (show ¬ (i < i) by omega), if_neg (show ¬ ((-1 : Int) ≠ -1) from fun c => c rfl)]
    · rw [fUp_ne e]
      by_cases g : i < 40 + (n : Int)
      · have g2 : i < 40 + ((n + 1 : Nat) : Int) := by omega
        rw [if_pos g, if_pos g2]
        omega
      · have g2 : ¬ i < 40 + ((n + 1 : Nat) : Int) := by omega
        rw [if_neg g, if_neg g2]
        omega
theorem bOf_up (hi : 0 ≤ i ∧ i < 48) : bOf (setF (setF (setF σ 4 i.toNat x) 5 i.toNat y) 3 2 z) = fUp (bOf σ) i x := by
  funext s
  unfold bOf fUp
  dsimp only
  by_cases g : 0 ≤ s ∧ s < 48
  · rw [if_pos g, if_pos g, setF_ne _ _ (by omega), setF_ne _ _ (by omega), setF_get]
    by_cases e : s = i
    · rw [if_pos e, if_pos (by omega)]
    · rw [if_neg e, if_neg (by omega)]
  · rw [if_neg g, if_neg g, if_neg (by omega)]
theorem kOf_up (hi : 0 ≤ i ∧ i < 48) : kOf (setF (setF (setF σ 4 i.toNat x) 5 i.toNat y) 3 2 z) = fUp (kOf σ) i y := by
  funext s
  unfold kOf fUp
  dsimp only
  by_cases g : 0 ≤ s ∧ s < 48
  · rw [if_pos g, if_pos g, setF_ne _ _ (by omega), setF_get]
    by_cases e : s = i
    · rw [if_pos e, if_pos (by omega)]
    · rw [if_neg e, if_neg (by omega), setF_ne _ _ (by omega)]
  · rw [if_neg g, if_neg g, if_neg (by omega)]
end AGREE
