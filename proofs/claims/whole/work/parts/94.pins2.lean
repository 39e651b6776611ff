/-! Pins: where a page moves, of both sides. -/
def lastLe (x : Int) : Int → Int → List Int → Int
  | _, r, [] => r
  | i, r, a :: as => lastLe x (i + 1) (if a ≤ x then i else r) as
def okPins (A B : List Int) : Prop := A.length = B.length ∧ A.length ≤ 6 ∧ (∀ j, j < A.length → (1 ≤ A.getD j 0 ∧ A.getD j 0 ≤ 999) ∧ 1 ≤ B.getD j 0 ∧ B.getD j 0 ≤ 999) ∧ ∀ j, j + 1 < A.length → A.getD j 0 < A.getD (j + 1) 0 ∧ B.getD j 0 < B.getD (j + 1) 0
def mvF (A B : List Int) (x : Int) : Int :=
  if lastLe x 0 (-1) A = -1 ∨ A.getD (A.length - 1) 0 < x then -1
  else if lastLe x 0 (-1) A = (A.length : Int) - 1 then B.getD (lastLe x 0 (-1) A).toNat 0
  else B.getD (lastLe x 0 (-1) A).toNat 0 + (x - A.getD (lastLe x 0 (-1) A).toNat 0) * (B.getD ((lastLe x 0 (-1) A).toNat + 1) 0 - B.getD (lastLe x 0 (-1) A).toNat 0) / (A.getD ((lastLe x 0 (-1) A).toNat + 1) 0 - A.getD (lastLe x 0 (-1) A).toNat 0)
/-- what the search finds -/
theorem lastLe_spec {x : Int} {A : List Int} : ∀ (rest done : List Int) (r : Int), A = done ++ rest → (r = -1 ∨ ∃ j : Nat, r = (j : Int) ∧ j < done.length ∧ A.getD j 0 ≤ x ∧ ∀ i, j < i → i < done.length → x < A.getD i 0) →
    (r = -1 → ∀ i, i < done.length → x < A.getD i 0) →
    (lastLe x (done.length : Int) r rest = -1 ∧ ∀ i, i < A.length → x < A.getD i 0) ∨ ∃ j : Nat, lastLe x (done.length : Int) r rest = (j : Int) ∧ j < A.length ∧ A.getD j 0 ≤ x ∧ ∀ i, j < i → i < A.length → x < A.getD i 0
  | [], done, r, e, h, h0 => by
    rw [List.append_nil] at e
    rw [show lastLe x (done.length : Int) r [] = r from rfl, e]
    rw [e] at h h0
    rcases h with h | h
    · exact Or.inl ⟨h, h0 h⟩
    · exact Or.inr h
  | a :: rest, done, r, e, h, h0 => by
    have ha : A.getD done.length 0 = a := by rw [e, List.getD_eq_getElem?_getD]; simp
    rw [show lastLe x (done.length : Int) r (a :: rest) = lastLe x ((done.length : Int) + 1) (if a ≤ x then (done.length : Int) else r) rest from rfl, show (done.length : Int) + 1 = ((done ++ [a]).length : Int) by simp]
    have hl : (done ++ [a]).length = done.length + 1 := by simp
    refine lastLe_spec rest (done ++ [a]) _ (by rw [e]; simp) ?_ ?_
    · by_cases c : a ≤ x
      · rw [if_pos c]
        exact Or.inr ⟨done.length, rfl, by omega, by rw [ha]; exact c, fun i h1 h2 => by omega⟩
      · rw [if_neg c]
        rcases h with h | ⟨j, h1, h2, h3, h4⟩
        · exact Or.inl h
        · refine Or.inr ⟨j, h1, by omega, h3, fun i k1 k2 => ?_⟩
          by_cases e2 : i = done.length
          · rw [e2, ha]
            omega
          · exact h4 i k1 (by omega)
    · intro hr i hi
      by_cases c : a ≤ x
      · rw [if_pos c] at hr
        omega
      · rw [if_neg c] at hr
        by_cases e2 : i = done.length
        · rw [e2, ha]
          omega
        · exact h0 hr i (by omega)
theorem lastLe_of (x : Int) (A : List Int) : (lastLe x 0 (-1) A = -1 ∧ ∀ i, i < A.length → x < A.getD i 0) ∨ ∃ j : Nat, lastLe x 0 (-1) A = (j : Int) ∧ j < A.length ∧ A.getD j 0 ≤ x ∧ ∀ i, j < i → i < A.length → x < A.getD i 0 :=
  lastLe_spec A [] (-1) rfl (Or.inl rfl) (fun _ i hi => absurd hi (Nat.not_lt_zero i))
theorem okPins.mono {A B : List Int} (h : okPins A B) : ∀ (d j : Nat), j + d < A.length → A.getD j 0 ≤ A.getD (j + d) 0 ∧ B.getD j 0 ≤ B.getD (j + d) 0
  | 0, j, _ => ⟨Int.le_refl _, Int.le_refl _⟩
  | d + 1, j, hj => by
    have h1 := okPins.mono h d j (by omega)
    have h2 := h.2.2.2 (j + d) (by omega)
    have e : j + (d + 1) = j + d + 1 := by omega
    rw [e]
    omega
/-- a page that stays: its piece -/
theorem mvF_cases {A B : List Int} (h : okPins A B) (x : Int) : mvF A B x = -1 ∨ ∃ j : Nat, lastLe x 0 (-1) A = (j : Int) ∧ j < A.length ∧ A.getD j 0 ≤ x ∧ ((j + 1 = A.length ∧ x = A.getD j 0 ∧ mvF A B x = B.getD j 0) ∨ (j + 1 < A.length ∧ x < A.getD (j + 1) 0 ∧ mvF A B x = B.getD j 0 + (x - A.getD j 0) * (B.getD (j + 1) 0 - B.getD j 0) / (A.getD (j + 1) 0 - A.getD j 0))) := by
  rcases lastLe_of x A with ⟨h1, _⟩ | ⟨j, h1, h2, h3, h4⟩
  · left
    unfold mvF
    rw [if_pos (Or.inl h1)]
  · by_cases c : A.getD (A.length - 1) 0 < x
    · left
      unfold mvF
      rw [if_pos (Or.inr c)]
    · right
      have e : mvF A B x = if (j : Int) = (A.length : Int) - 1 then B.getD j 0 else B.getD j 0 + (x - A.getD j 0) * (B.getD (j + 1) 0 - B.getD j 0) / (A.getD (j + 1) 0 - A.getD j 0) := by
        unfold mvF
        rw [h1, if_neg (fun g => g.elim (fun g => by omega) c), Int.toNat_natCast]
      refine ⟨j, h1, h2, h3, ?_⟩
      by_cases c2 : j + 1 = A.length
      · rw [if_pos (by omega)] at e
        refine Or.inl ⟨c2, ?_, e⟩
        rw [show A.length - 1 = j by omega] at c
        omega
      · rw [if_neg (by omega)] at e
        exact Or.inr ⟨by omega, h4 (j + 1) (by omega) (by omega), e⟩
theorem piece {p q d e : Int} (hp : 0 ≤ p) (hpq : p < q) (hd : 0 < d) : 0 ≤ p * d / q ∧ p * d / q < d := by
  have hq : 0 < q := by omega
  have h1 : 0 ≤ p * d := Int.mul_nonneg hp (by omega)
  refine ⟨Int.ediv_nonneg h1 (by omega), Int.ediv_lt_of_lt_mul hq ?_⟩
  rw [Int.mul_comm d q]
  exact Int.mul_lt_mul_of_pos_right hpq hd
theorem mvF_range {A B : List Int} (h : okPins A B) (x : Int) : mvF A B x = -1 ∨ (1 ≤ mvF A B x ∧ mvF A B x ≤ 999) := by
  rcases mvF_cases h x with g | ⟨j, h1, h2, h3, ⟨h4, h5, h6⟩ | ⟨h4, h5, h6⟩⟩
  · exact Or.inl g
  · have := h.2.2.1 j h2
    omega
  · have k1 := h.2.2.1 j h2
    have k2 := h.2.2.1 (j + 1) h4
    have k3 := h.2.2.2 j h4
    have k4 := piece (p := x - A.getD j 0) (q := A.getD (j + 1) 0 - A.getD j 0) (d := B.getD (j + 1) 0 - B.getD j 0) (e := 0) (by omega) (by omega) (by omega)
    omega
theorem mvF_mono {A B : List Int} (h : okPins A B) {x y : Int} (hxy : x ≤ y) (hx : mvF A B x ≠ -1) (hy : mvF A B y ≠ -1) : mvF A B x ≤ mvF A B y := by
  rcases mvF_cases h x with g | ⟨i, h1, h2, h3, h4⟩
  · exact absurd g hx
  rcases mvF_cases h y with g | ⟨j, k1, k2, k3, k4⟩
  · exact absurd g hy
  have up : ∀ a b, a ≤ b → b < A.length → A.getD a 0 ≤ A.getD b 0 ∧ B.getD a 0 ≤ B.getD b 0 := fun a b hab hb => by
    have := okPins.mono h (b - a) a (by omega)
    rw [show a + (b - a) = b by omega] at this
    exact this
  have lo : B.getD j 0 ≤ mvF A B y := by
    rcases k4 with ⟨g1, g2, g3⟩ | ⟨g1, g2, g3⟩
    · omega
    · have q3 := h.2.2.2 j g1
      have q4 := piece (p := y - A.getD j 0) (q := A.getD (j + 1) 0 - A.getD j 0) (d := B.getD (j + 1) 0 - B.getD j 0) (e := 0) (by omega) (by omega) (by omega)
      omega
  rcases h4 with ⟨g1, g2, g3⟩ | ⟨g1, g2, g3⟩
  · have := up j i
    by_cases c : j = i
    · rw [c] at lo
      omega
    · exfalso
      rcases k4 with ⟨a1, a2, a3⟩ | ⟨a1, a2, a3⟩
      · omega
      · have := up (j + 1) i (by omega) h2
        omega
  · have q3 := h.2.2.2 i g1
    have q4 := piece (p := x - A.getD i 0) (q := A.getD (i + 1) 0 - A.getD i 0) (d := B.getD (i + 1) 0 - B.getD i 0) (e := 0) (by omega) (by omega) (by omega)
    by_cases c : i < j
    · have := up (i + 1) j (by omega) k2
      omega
    · by_cases c2 : j = i
      · subst c2
        rcases k4 with ⟨a1, a2, a3⟩ | ⟨a1, a2, a3⟩
        · omega
        · have q5 : (x - A.getD j 0) * (B.getD (j + 1) 0 - B.getD j 0) / (A.getD (j + 1) 0 - A.getD j 0) ≤ (y - A.getD j 0) * (B.getD (j + 1) 0 - B.getD j 0) / (A.getD (j + 1) 0 - A.getD j 0) :=
            Int.ediv_le_ediv (by omega) (Int.mul_le_mul_of_nonneg_right (by omega) (by omega))
          omega
      · exfalso
        rcases k4 with ⟨a1, a2, a3⟩ | ⟨a1, a2, a3⟩
        · omega
        · have := up (j + 1) i (by omega) h2
          omega
