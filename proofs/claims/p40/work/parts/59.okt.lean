/-! What holds of every tailoring; the longest item, marks that are taken, numbers. -/
def okTD (D : TD) : Prop := D.1.length = D.2.1.length ∧ D.1.length ≤ 48 ∧ D.2.2.1.length ≤ 12 ∧ D.1.Nodup ∧ D.2.2.1.Nodup ∧ sgOk D ∧ (∀ l ∈ D.2.1, 1 ≤ l ∧ l ≤ 4) ∧ D.2.1.head? = some 1 ∧
  (∀ c ∈ D.1, okCd c ∧ (canBe c ∨ (29 ≤ c ∧ c ≤ 40))) ∧ (∀ c ∈ D.2.2.1, okCd c ∧ canBe c) ∧
  (∀ s ∈ D.2.2.2, 1 < sgIn s ∧ ∀ k, 0 ≤ k → k < sgIn s → isLet (sgAt s k) ∧ sgAt s k + 1 ∈ D.1) ∧ (∀ s, isLet s → kn D (s + 1)) ∧ (∀ c, 29 ≤ c → c ≤ 40 → c ∈ D.1) ∧
  ∀ (i : Nat) (c s : Int), D.2.2.1[i]? = some c → D.2.2.2[i]? = some s → ¬ hasSg s c
theorem okTD.sg {D : TD} (h : okTD D) : sgOk D := h.2.2.2.2.2.1
theorem okTD.cd {D : TD} (h : okTD D) {c : Int} (hc : kn D c) : okCd c := by
  obtain ⟨-, -, -, -, -, -, -, -, h1, h2, -⟩ := h
  rcases hc with g | g
  · exact (h1 c g).1
  · exact (h2 c g).1
theorem okTD.dg {D : TD} (h : okTD D) {c : Int} (h1 : 29 ≤ c) (h2 : c ≤ 40) : c ∈ D.1 := h.2.2.2.2.2.2.2.2.2.2.2.2.1 c h1 h2
theorem w1_len : ∀ (l : List Int) (f : Int), (w1 f l).length = l.length
  | [], _ => rfl
  | _ :: l, _ => by simp [w1, w1_len l]
theorem w2_len : ∀ (l : List Int) (f : Int), (w2 f l).length = l.length
  | [], _ => rfl
  | _ :: l, _ => by simp [w2, w2_len l]
theorem w3_len : ∀ (l : List Int) (f : Int), (w3 f l).length = l.length
  | [], _ => rfl
  | _ :: l, _ => by simp [w3, w3_len l]
theorem w1_ge : ∀ (l : List Int) (f : Int), ∀ y ∈ w1 f l, f ≤ y ∧ y ≤ f + l.length
  | [], _, y, h => by simp [w1] at h
  | x :: l, f, y, h => by
    unfold w1 at h
    simp only [List.length_cons]
    rcases List.mem_cons.mp h with g | g
    · split at g <;> omega
    · have := w1_ge l _ y g
      split at this <;> omega
theorem w1_pos {l : List Int} (h : l.head? = some 1) : ∀ y ∈ w1 0 l, 1 ≤ y ∧ y ≤ l.length := by
  cases l with
  | nil => cases h
  | cons x l =>
    cases h
    intro y hy
    unfold w1 at hy
    simp only [if_pos] at hy
    simp only [List.length_cons]
    rcases List.mem_cons.mp hy with g | g
    · omega
    · have := w1_ge l _ y g
      omega
theorem w2_pos : ∀ (l : List Int) (f : Int), 1 ≤ f → ∀ y ∈ w2 f l, 1 ≤ y ∧ y ≤ f + l.length
  | [], _, _, y, h => by simp [w2] at h
  | x :: l, f, hf, y, h => by
    unfold w2 at h
    simp only [List.length_cons]
    rcases List.mem_cons.mp h with g | g
    · split at g
      · omega
      · split at g <;> omega
    · have h1 : 1 ≤ (if x = 1 then 1 else if x = 2 then f + 1 else f) ∧ (if x = 1 then 1 else if x = 2 then f + 1 else f) ≤ f + 1 := by
        split
        · omega
        · split <;> omega
      have := w2_pos l _ h1.1 y g
      omega
theorem w3_pos : ∀ (l : List Int) (f : Int), 1 ≤ f → ∀ y ∈ w3 f l, 1 ≤ y ∧ y ≤ f + l.length
  | [], _, _, y, h => by simp [w3] at h
  | x :: l, f, hf, y, h => by
    unfold w3 at h
    simp only [List.length_cons]
    rcases List.mem_cons.mp h with g | g
    · split at g
      · omega
      · split at g <;> omega
    · have h1 : 1 ≤ (if x ≤ 2 then 1 else if x = 3 then f + 1 else f) ∧ (if x ≤ 2 then 1 else if x = 3 then f + 1 else f) ≤ f + 1 := by
        split
        · omega
        · split <;> omega
      have := w3_pos l _ h1.1 y g
      omega
/-- the weights of what is in the list -/
theorem wOf_in {D : TD} (h : okTD D) {c : Int} (hc : c ∈ D.1) (kd : Int) : (1 ≤ (wOf D c kd).1 ∧ (wOf D c kd).1 ≤ 48) ∧ (1 ≤ (wOf D c kd).2.1 ∧ (wOf D c kd).2.1 ≤ 49) ∧ (1 ≤ (wOf D c kd).2.2.1 ∧ (wOf D c kd).2.2.1 ≤ 49) := by
  have hp := rplace_or D.1 c
  rcases hp with g | ⟨g1, g2, -⟩
  · exact absurd hc g.2
  · have e1 := w1_pos h.2.2.2.2.2.2.2.1 _ (rget_mem (i := rplace D.1 c) (xs := w1 0 D.2.1) (by rw [w1_len, ← h.1]; omega))
    have e2 := w2_pos D.2.1 1 (by omega) _ (rget_mem (i := rplace D.1 c) (xs := w2 1 D.2.1) (by rw [w2_len, ← h.1]; omega))
    have e3 := w3_pos D.2.1 1 (by omega) _ (rget_mem (i := rplace D.1 c) (xs := w3 1 D.2.1) (by rw [w3_len, ← h.1]; omega))
    have h48 := h.2.1
    have h1 := h.1
    exact ⟨⟨e1.1, by show rget _ _ ≤ 48; omega⟩, ⟨e2.1, by show rget _ _ ≤ 49; omega⟩, ⟨e3.1, by show rget _ _ ≤ 49; omega⟩⟩
/-- the first weight of the digits' item -/
def fwN (D : TD) : Int := rget (w1 0 D.2.1) (rplace D.1 31)
theorem fwN_in {D : TD} (h : okTD D) : 1 ≤ fwN D ∧ fwN D ≤ 48 := (wOf_in h (h.dg (c := 31) (by decide) (by decide)) 0).1
abbrev okA40 (ss : List Int) : Prop := ∀ s ∈ ss, 0 ≤ s ∧ s < 40
theorem cdL_pos : ∀ (l : List Int), l ≠ [] → l.length ≤ 3 → okA40 l → okCd (cdL l)
  | [], h, _, _ => absurd rfl h
  | [x], _, _, h => by
    have h1 := h x (by simp)
    show 0 < (0 : Int) * 100 + x + 1 ∧ (0 : Int) * 100 + x + 1 < _
    omega
  | [x, y], _, _, h => by
    have h1 := h x (by simp)
    have h2 := h y (by simp)
    show 0 < ((0 : Int) * 100 + x + 1) * 100 + y + 1 ∧ ((0 : Int) * 100 + x + 1) * 100 + y + 1 < _
    omega
  | [x, y, z], _, _, h => by
    have h1 := h x (by simp)
    have h2 := h y (by simp)
    have h3 := h z (by simp)
    show 0 < (((0 : Int) * 100 + x + 1) * 100 + y + 1) * 100 + z + 1 ∧ (((0 : Int) * 100 + x + 1) * 100 + y + 1) * 100 + z + 1 < _
    omega
  | x :: y :: z :: u :: l, _, h, _ => by
    simp at h
/-- the digits at the beginning -/
def digs : List Int → List Int
  | [] => []
  | x :: xs => if isDig x then x :: digs xs else []
/-- less the zeros at the beginning, but for the last one -/
def strp : List Int → List Int
  | [] => []
  | [x] => [x]
  | x :: y :: r => if x = 30 then strp (y :: r) else x :: y :: r
def lnOf (D : TD) (l : List Int) : Nat := if 3 ≤ l.length ∧ kn D (cdL (l.take 3)) then 3 else if 2 ≤ l.length ∧ kn D (cdL (l.take 2)) then 2 else 1
/-- marks that are taken besides: the code then, and who took which -/
def tmk (D : TD) (v : Int) : List Int → Int → Int → Nat → List Int → Int × List Int
  | [], c, _, _, tk => (c, tk)
  | m :: ms, c, cl, p, tk => if isMrk m then (if cl < clsOf m ∧ kn D (c * 100 + m + 1) then tmk D v ms (c * 100 + m + 1) cl (p + 1) (tk.set p v) else tmk D v ms c (if cl < clsOf m then clsOf m else cl) (p + 1) tk) else (c, tk)
theorem digs_len : ∀ (l : List Int), (digs l).length ≤ l.length
  | [] => Nat.le_refl _
  | x :: xs => by
    unfold digs
    have := digs_len xs
    split
    · simpa using this
    · simp
theorem digs_split : ∀ (l : List Int), l = digs l ++ l.drop (digs l).length
  | [] => rfl
  | x :: xs => by
    unfold digs
    split
    · simp [← digs_split xs]
    · simp
theorem digs_mem : ∀ {l : List Int} {x : Int}, x ∈ digs l → isDig x
  | [], _, h => by simp [digs] at h
  | y :: ys, x, h => by
    unfold digs at h
    split at h
    · rename_i c
      rcases List.mem_cons.mp h with g | g
      · rw [g]; exact c
      · exact digs_mem g
    · cases h
theorem strp_len : ∀ (l : List Int), (strp l).length ≤ l.length
  | [] => Nat.le_refl _
  | [x] => Nat.le_refl _
  | x :: y :: r => by
    unfold strp
    have := strp_len (y :: r)
    split
    · simp only [List.length_cons] at this ⊢
      omega
    · exact Nat.le_refl _
theorem strp_mem : ∀ {l : List Int} {x : Int}, x ∈ strp l → x ∈ l
  | [], _, h => h
  | [x], _, h => h
  | x :: y :: r, z, h => by
    unfold strp at h
    split at h
    · exact List.mem_cons_of_mem _ (strp_mem h)
    · exact h
theorem tmk_len (D : TD) (v : Int) : ∀ (ms : List Int) (c cl : Int) (p : Nat) (tk : List Int), (tmk D v ms c cl p tk).2.length = tk.length
  | [], _, _, _, _ => rfl
  | m :: ms, c, cl, p, tk => by
    unfold tmk
    split
    · split
      · rw [tmk_len D v ms]; exact List.length_set
      · exact tmk_len D v ms _ _ _ _
    · rfl
theorem tmk_low (D : TD) (v : Int) : ∀ (ms : List Int) (c cl : Int) (p : Nat) (tk : List Int) (j : Nat), j < p → (tmk D v ms c cl p tk).2[j]? = tk[j]?
  | [], _, _, _, _, _, _ => rfl
  | m :: ms, c, cl, p, tk, j, hj => by
    unfold tmk
    split
    · split
      · rw [tmk_low D v ms _ _ _ _ j (by omega), List.getElem?_set]
        rw [if_neg (by omega)]
      · exact tmk_low D v ms _ _ _ _ j (by omega)
    · rfl
theorem tkF_get : ∀ (n f : Nat) (v : Int) (l : List Int) (j : Nat), (tkF n f v l)[j]? = if f ≤ j ∧ j < f + n ∧ j < l.length then some v else l[j]?
  | 0, f, v, l, j => by
    unfold tkF
    rw [if_neg (by omega)]
  | n + 1, f, v, l, j => by
    unfold tkF
    rw [tkF_get n (f + 1) v (l.set f v) j, List.length_set, List.getElem?_set]
    by_cases h1 : f = j
    · subst h1
      rw [if_neg (by omega), if_pos rfl]
      by_cases h2 : f < l.length
      · rw [if_pos h2, if_pos (by omega)]
      · rw [if_neg h2, if_neg (by omega), List.getElem?_eq_none (by omega)]
    · rw [if_neg h1]
      by_cases h2 : f + 1 ≤ j ∧ j < f + 1 + n ∧ j < l.length
      · rw [if_pos h2, if_pos (by omega)]
      · rw [if_neg h2, if_neg (by omega)]
theorem tmk_cd {D : TD} (hD : okTD D) (v : Int) : ∀ (ms : List Int) (c cl : Int) (p : Nat) (tk : List Int), okCd c → okCd (tmk D v ms c cl p tk).1
  | [], _, _, _, _, h => h
  | m :: ms, c, cl, p, tk, h => by
    unfold tmk
    split
    · split
      · rename_i g
        exact tmk_cd hD v ms _ _ _ _ (hD.cd g.2)
      · exact tmk_cd hD v ms _ _ _ _ h
    · exact h
theorem lnOf_in (D : TD) {l : List Int} (hl : l ≠ []) : 1 ≤ lnOf D l ∧ lnOf D l ≤ 3 ∧ lnOf D l ≤ l.length := by
  have : 0 < l.length := List.length_pos_iff.mpr hl
  unfold lnOf
  split
  · omega
  · split <;> omega
