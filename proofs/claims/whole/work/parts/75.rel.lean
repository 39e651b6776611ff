/-! The class's and the model's elements are the same; what was taken together. -/
theorem getD_set' {l : List Int} {j i : Nat} {v : Int} (hi : i < l.length) : (l.set j v).getD i 0 = if i = j then v else l.getD i 0 := by
  rw [List.getD_eq_getElem?_getD, List.getElem?_set]
  by_cases e : j = i
  · rw [if_pos e, if_pos (by omega), if_pos e.symm]
    rfl
  · rw [if_neg e, if_neg (Ne.symm e), List.getD_eq_getElem?_getD]
theorem getD_of {l l' : List Int} {i : Nat} (h : l[i]? = l'[i]?) : l.getD i 0 = l'.getD i 0 := by rw [List.getD_eq_getElem?_getD, h, List.getD_eq_getElem?_getD]
theorem tmk_pos (D : TD) : ∀ (ms : List Int) (c cl : Int) (p : Nat), ∃ (P : Nat → Bool) (C : Int), (∀ i, P i = true → p ≤ i) ∧ ∀ (v : Int) (tk : List Int), (tmk D v ms c cl p tk).1 = C ∧ ∀ i, i < tk.length → (tmk D v ms c cl p tk).2.getD i 0 = if P i = true then v else tk.getD i 0
  | [], c, _, _ => ⟨fun _ => false, c, fun _ h => absurd h (by simp), fun _ _ => ⟨rfl, fun _ _ => by rw [if_neg (by simp)]; rfl⟩⟩
  | m :: ms, c, cl, p => by
    by_cases g : isMrk m
    · by_cases g2 : cl < clsOf m ∧ kn D (c * 100 + m + 1)
      · obtain ⟨P, C, h1, h2⟩ := tmk_pos D ms (c * 100 + m + 1) cl (p + 1)
        refine ⟨fun i => decide (i = p) || P i, C, fun i hi => ?_, fun v tk => ?_⟩
        · simp only [Bool.or_eq_true, decide_eq_true_eq] at hi
          rcases hi with k | k
          · omega
          · have := h1 i k; omega
        · unfold tmk
          rw [if_pos g, if_pos g2]
          obtain ⟨k1, k2⟩ := h2 v (tk.set p v)
          refine ⟨k1, fun i hi => ?_⟩
          rw [k2 i (by rw [List.length_set]; exact hi), getD_set' hi]
          by_cases e : i = p
          · simp [e]
          · simp [e]
      · obtain ⟨P, C, h1, h2⟩ := tmk_pos D ms c (if cl < clsOf m then clsOf m else cl) (p + 1)
        refine ⟨P, C, fun i hi => by have := h1 i hi; omega, fun v tk => ?_⟩
        unfold tmk
        rw [if_pos g, if_neg g2]
        exact h2 v tk
    · refine ⟨fun _ => false, c, fun _ h => absurd h (by simp), fun v tk => ?_⟩
      unfold tmk
      rw [if_neg g]
      exact ⟨rfl, fun i _ => by rw [if_neg (by simp)]⟩
theorem tkF_getD (n f : Nat) (v : Int) (l : List Int) {i : Nat} (hi : i < l.length) : (tkF n f v l).getD i 0 = if f ≤ i ∧ i < f + n then v else l.getD i 0 := by
  rw [List.getD_eq_getElem?_getD, tkF_get]
  by_cases e : f ≤ i ∧ i < f + n
  · rw [if_pos ⟨e.1, e.2, hi⟩, if_pos e]
    rfl
  · rw [if_neg (fun g => e ⟨g.1, g.2.1⟩), if_neg e, List.getD_eq_getElem?_getD]
/-- a step's work doesn't turn on who takes -/
theorem gStep_pos (D : TD) (bv : Int) (ss : List Int) {p : Nat} (hp : p < ss.length) (kd : Int) : ∃ (P : Nat → Bool) (adv : Nat) (E : List El) (k : Int), (∀ i, P i = true → p ≤ i) ∧ (∀ i, p ≤ i → i < p + adv → P i = true) ∧ ∀ (v : Int) (els : List El) (tk : List Int),
    (gStep D bv ss p v (els, tk, kd)).1 = adv ∧ (gStep D bv ss p v (els, tk, kd)).2.1 = els ++ E ∧ (gStep D bv ss p v (els, tk, kd)).2.2.2 = k ∧ ∀ i, i < tk.length → (gStep D bv ss p v (els, tk, kd)).2.2.1.getD i 0 = if P i = true then v else tk.getD i 0 := by
  by_cases g : isMrk (ss.getD p 0)
  · refine ⟨fun i => decide (i = p), 1, [(0, ss.getD p 0 - 22, 1, mkK kd)], mkK kd, fun i hi => by have := of_decide_eq_true hi; omega, fun i h1 h2 => decide_eq_true (by omega), fun v els tk => ?_⟩
    unfold gStep
    rw [if_pos g]
    refine ⟨rfl, rfl, rfl, fun i hi => ?_⟩
    show (tk.set p v).getD i 0 = _
    rw [getD_set' hi]
    by_cases e : i = p <;> simp [e]
  · by_cases g2 : isDig (ss.getD p 0) ∧ bv = 1
    · refine ⟨fun i => decide (p ≤ i ∧ i < p + (digs (ss.drop p)).length), (digs (ss.drop p)).length, numEls D (digs (ss.drop p)), 0, fun i hi => (of_decide_eq_true hi).1, fun i h1 h2 => decide_eq_true ⟨h1, h2⟩, fun v els tk => ?_⟩
      unfold gStep
      rw [if_neg g, if_pos g2]
      refine ⟨rfl, rfl, rfl, fun i hi => ?_⟩
      show (tkF (digs (ss.drop p)).length p v tk).getD i 0 = _
      rw [tkF_getD _ _ _ _ hi]
      by_cases e : p ≤ i ∧ i < p + (digs (ss.drop p)).length
      · rw [if_pos e, if_pos (decide_eq_true e)]
      · rw [if_neg e, if_neg (fun g9 => e (of_decide_eq_true g9))]
    · obtain ⟨P, C, h1, h2⟩ := tmk_pos D (ss.drop (p + lnOf D (ss.drop p))) (cdL ((ss.drop p).take (lnOf D (ss.drop p)))) 0 (p + lnOf D (ss.drop p))
      refine ⟨fun i => decide (p ≤ i ∧ i < p + lnOf D (ss.drop p)) || P i, lnOf D (ss.drop p), elsOf D C (b2 (isBlk (ss.getD p 0))), b2 (isBlk (ss.getD p 0)), fun i hi => ?_, fun i k1 k2 => ?_, fun v els tk => ?_⟩
      · simp only [Bool.or_eq_true, decide_eq_true_eq] at hi
        rcases hi with k | k
        · exact k.1
        · have := h1 i k; omega
      · simp only [Bool.or_eq_true, decide_eq_true_eq]
        exact Or.inl ⟨k1, k2⟩
      · unfold gStep
        rw [if_neg g, if_neg g2]
        obtain ⟨k1, k2⟩ := h2 v (tkF (lnOf D (ss.drop p)) p v tk)
        refine ⟨rfl, ?_, rfl, fun i hi => ?_⟩
        · show els ++ elsOf D (itmC D ss p v tk).1 _ = _
          unfold itmC
          rw [k1]
        · show (itmC D ss p v tk).2.getD i 0 = _
          unfold itmC
          rw [k2 i (by rw [tkF_len]; exact hi), tkF_getD _ _ _ _ hi]
          by_cases e : P i = true
          · simp [e]
          · by_cases e2 : p ≤ i ∧ i < p + lnOf D (ss.drop p) <;> simp [e, e2]
/-- who took which: places on the class's side, groups on the model's -/
def rgt (n : Nat) (tk g : List Int) (p : Nat) (v : Int) : Prop := tk.length = n ∧ g.length = n ∧ 0 ≤ v ∧ (∀ i, i < n → (tk.getD i 0 = -1 ↔ g.getD i 0 = -1) ∧ (-1 ≤ tk.getD i 0 ∧ tk.getD i 0 < p) ∧ (-1 ≤ g.getD i 0 ∧ g.getD i 0 < v)) ∧ (∀ i j, i < n → j < n → tk.getD i 0 ≠ -1 → tk.getD j 0 ≠ -1 → (tk.getD i 0 = tk.getD j 0 ↔ g.getD i 0 = g.getD j 0)) ∧
  (∀ i, i < n → i < p → tk.getD i 0 ≠ -1) ∧ ∀ i, i < n → tk.getD i 0 ≠ -1 → tk.getD i 0 ≤ i ∧ tk.getD (tk.getD i 0).toNat 0 = tk.getD i 0
theorem gth_rel {D : TD} {bv : Int} {ss : List Int} : ∀ (f p : Nat) (v : Int) (els : List El) (tk g : List Int) (kd : Int), rgt ss.length tk g p v → ss.length < p + f →
    ∃ p' : Nat, ss.length ≤ p' ∧ (gthM D bv ss f p v (els, g, kd)).2.1 = (gth D bv ss f p (els, tk, kd)).1 ∧ rgt ss.length (gth D bv ss f p (els, tk, kd)).2.1 (gthM D bv ss f p v (els, g, kd)).2.2.1 p' (gthM D bv ss f p v (els, g, kd)).1
  | 0, p, v, els, tk, g, kd, hr, hf => ⟨p, by omega, rfl, hr⟩
  | f + 1, p, v, els, tk, g, kd, hr, hf => by
    unfold gth gthM
    by_cases c0 : ss.length ≤ p
    · rw [if_pos c0, if_pos c0]
      exact ⟨p, c0, rfl, hr⟩
    · rw [if_neg c0, if_neg c0]
      obtain ⟨r1, r2, r3, r4, r5, r6, r7⟩ := hr
      have hp : p < ss.length := by omega
      have hcm : tk.getD p 0 = -1 ↔ g.getD p 0 = -1 := (r4 p hp).1
      by_cases c1 : tk.getD p 0 ≠ -1
      · rw [if_pos c1, if_pos (fun e => c1 (hcm.mpr e))]
        refine gth_rel f (p + 1) (v + 1) els tk g kd ⟨r1, r2, by omega, fun i hi => ?_, r5, fun i hi h1 => ?_, r7⟩ (by omega)
        · obtain ⟨k1, k2, k3⟩ := r4 i hi
          exact ⟨k1, by omega, by omega⟩
        · by_cases e : i = p
          · rw [e]; exact c1
          · exact r6 i hi (by omega)
      · have c1 : tk.getD p 0 = -1 := Decidable.byContradiction c1
        rw [if_neg (fun e => e (hcm.mp c1)), if_neg (fun e => e c1)]
        obtain ⟨P, adv, E, k, h1, h2, h3⟩ := gStep_pos D bv ss hp kd
        obtain ⟨a1, a2, a3, a4⟩ := h3 (p : Int) els tk
        obtain ⟨b1, b2, b3, b4⟩ := h3 v els g
        have hadv := (gStep_adv (D := D) (bv := bv) (v := (p : Int)) (S := (els, tk, kd)) hp).1
        have hl1 := gStep_grp (D := D) (bv := bv) (ss := ss) (v := (p : Int)) (S := (els, tk, kd)) p
        have hl2 := gStep_grp (D := D) (bv := bv) (ss := ss) (v := v) (S := (els, g, kd)) p
        have e1 : gStep D bv ss p p (els, tk, kd) = (adv, els ++ E, (gStep D bv ss p p (els, tk, kd)).2.2.1, k) := by
          rw [← a1, ← a2, ← a3]
        have e2 : gStep D bv ss p v (els, g, kd) = (adv, els ++ E, (gStep D bv ss p v (els, g, kd)).2.2.1, k) := by
          rw [← b1, ← b2, ← b3]
        rw [e1, e2]
        dsimp only
        generalize (gStep D bv ss p p (els, tk, kd)).2.2.1 = tk' at *
        generalize (gStep D bv ss p v (els, g, kd)).2.2.1 = g' at *
        dsimp only at hl1 hl2
        rw [a1] at hadv
        have hPp : P p = true := h2 p (Nat.le_refl _) (by omega)
        refine gth_rel f (p + adv) (v + 1) (els ++ E) tk' g' k ⟨by omega, by omega, by omega, fun i hi => ?_, fun i j hi hj hti htj => ?_, fun i hi h9 => ?_, fun i hi hti => ?_⟩ (by omega)
        · rw [a4 i (by omega), b4 i (by omega)]
          obtain ⟨k1, k2, k3⟩ := r4 i hi
          by_cases e : P i = true
          · rw [if_pos e, if_pos e]
            exact ⟨by omega, by omega, by omega⟩
          · rw [if_neg e, if_neg e]
            exact ⟨k1, by omega, by omega⟩
        · rw [a4 i (by omega)] at hti ⊢
          rw [a4 j (by omega)] at htj ⊢
          rw [b4 i (by omega), b4 j (by omega)]
          obtain ⟨k1, k2, k3⟩ := r4 i hi
          obtain ⟨q1, q2, q3⟩ := r4 j hj
          by_cases e : P i = true
          · rw [if_pos e] at hti ⊢
            rw [if_pos e]
            by_cases e' : P j = true
            · rw [if_pos e', if_pos e']
              exact ⟨fun _ => rfl, fun _ => rfl⟩
            · rw [if_neg e', if_neg e']
              exact ⟨fun _ => by omega, fun _ => by omega⟩
          · rw [if_neg e] at hti ⊢
            rw [if_neg e]
            by_cases e' : P j = true
            · rw [if_pos e', if_pos e']
              exact ⟨fun _ => by omega, fun _ => by omega⟩
            · rw [if_neg e'] at htj ⊢
              rw [if_neg e']
              exact r5 i j hi hj hti htj
        · rw [a4 i (by omega)]
          by_cases e : P i = true
          · rw [if_pos e]; omega
          · rw [if_neg e]
            refine r6 i hi (Decidable.byContradiction fun g9 => e (h2 i (by omega) h9))
        · rw [a4 i (by omega)] at hti ⊢
          by_cases e : P i = true
          · rw [if_pos e]
            have := h1 i e
            refine ⟨by omega, ?_⟩
            rw [Int.toNat_natCast, a4 p (by omega), if_pos hPp]
          · rw [if_neg e] at hti ⊢
            obtain ⟨k1, k2, k3⟩ := r4 i hi
            obtain ⟨z1, z2⟩ := r7 i hi hti
            refine ⟨z1, ?_⟩
            rw [a4 _ (by omega), if_neg (fun g9 => by have := h1 _ g9; omega)]
            exact z2
theorem gthR_rel (D : TD) (bv : Int) (ss : List Int) : (gthMR D bv ss).2.1 = (gthR D bv ss).1 ∧ ∃ p, ss.length ≤ p ∧ rgt ss.length (gthR D bv ss).2.1 (gthMR D bv ss).2.2.1 p (gthMR D bv ss).1 := by
  have e : ∀ i, i < ss.length → (List.replicate ss.length (-1 : Int)).getD i 0 = -1 := fun i hi => by simp [List.getD_eq_getElem?_getD, hi]
  have h0 : rgt ss.length (List.replicate ss.length (-1)) (List.replicate ss.length (-1)) 0 0 := by
    refine ⟨by simp, by simp, Int.le_refl _, fun i hi => ?_, fun i j hi hj h1 => absurd (e i hi) h1, fun i hi h1 => absurd h1 (Nat.not_lt_zero _), fun i hi h1 => absurd (e i hi) h1⟩
    rw [e i hi]
    exact ⟨Iff.rfl, by omega, by omega⟩
  obtain ⟨p, h1, h2, h3⟩ := gth_rel (D := D) (bv := bv) (ss := ss) (ss.length + 1) 0 0 [] (List.replicate ss.length (-1)) (List.replicate ss.length (-1)) 0 h0 (by omega)
  exact ⟨h2, p, h1, h3⟩
theorem gthM_v (D : TD) (bv : Int) (ss : List Int) : ∀ (f p : Nat) (v : Int) (S : GS), p ≤ ss.length → (gthM D bv ss f p v S).1 ≤ v + ((ss.length - p : Nat) : Int)
  | 0, p, v, S, h => by unfold gthM; dsimp only; omega
  | f + 1, p, v, S, h => by
    unfold gthM
    split
    · dsimp only; omega
    · rename_i c
      split
      · have := gthM_v D bv ss f (p + 1) (v + 1) S (by omega)
        omega
      · have h1 := gStep_adv (D := D) (bv := bv) (v := v) (S := S) (show p < ss.length by omega)
        have := gthM_v D bv ss f (p + (gStep D bv ss p v S).1) (v + 1) (gStep D bv ss p v S).2 (by omega)
        omega
/-- an edge, as the model has it -/
def edgM (ss g : List Int) (p : Nat) : Prop := ¬ isMrk (rget ss (p : Int)) ∧ ∀ a b, a < p → p ≤ b → b < ss.length → g.getD a 0 ≠ g.getD b 0
theorem edg_iff {ss tk g : List Int} {p q : Nat} {v : Int} (hr : rgt ss.length tk g q v) (hq : ss.length ≤ q) (hp : p ≤ ss.length) : edgM ss g p ↔ edgP ss tk p := by
  obtain ⟨r1, r2, r3, r4, r5, r6, r7⟩ := hr
  refine ⟨fun ⟨h1, h2⟩ => ⟨h1, fun ⟨x, hx, hlt⟩ => ?_⟩, fun ⟨h1, h2⟩ => ⟨h1, fun a b ha hb hbn hg => h2 ?_⟩⟩
  · obtain ⟨j, hj, e⟩ := List.mem_iff_getElem.mp hx
    rw [List.getElem_drop] at e
    rw [List.length_drop] at hj
    have e2 : tk.getD (p + j) 0 = x := by rw [List.getD_eq_getElem?_getD, List.getElem?_eq_getElem (by omega), ← e]; rfl
    have hn := r6 (p + j) (by omega) (by omega)
    obtain ⟨z1, z2⟩ := r7 (p + j) (by omega) hn
    have k := r4 (p + j) (by omega)
    rw [e2] at z1 z2 hn k
    refine h2 x.toNat (p + j) (by omega) (by omega) (by omega) ?_
    refine (r5 x.toNat (p + j) (by omega) (by omega) (r6 _ (by omega) (by omega)) (by rw [e2]; exact hn)).mp ?_
    rw [z2, e2]
  · have hna := r6 a (by omega) (by omega)
    have hnb := r6 b hbn (by omega)
    have e := (r5 a b (by omega) hbn hna hnb).mpr hg
    obtain ⟨z1, -⟩ := r7 a (by omega) hna
    refine ⟨tk.getD b 0, ?_, by omega⟩
    rw [List.getD_eq_getElem?_getD, List.getElem?_eq_getElem (show b < tk.length by omega)]
    refine List.mem_iff_getElem.mpr ⟨b - p, by rw [List.length_drop]; omega, ?_⟩
    rw [List.getElem_drop]
    simp only [Option.getD_some]
    congr 1
    omega
