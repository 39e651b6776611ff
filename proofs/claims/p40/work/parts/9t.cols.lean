/-! Columns: pure. -/
theorem tog_len (F : Int → Int → Int) : ∀ (xs : List Int), (tog F none xs).length ≤ xs.length ∧ (xs ≠ [] → 1 ≤ (tog F none xs).length) ∧ ∀ c mo acc, (tog F (some (c, mo, acc)) xs).length ≤ 1 + acc.length + xs.length ∧ 1 ≤ (tog F (some (c, mo, acc)) xs).length
  | [] => by
    refine ⟨Nat.le_refl _, fun h => absurd rfl h, fun c mo acc => ?_⟩
    unfold tog
    simp
    omega
  | x :: xs => by
    obtain ⟨h1, -, h3⟩ := tog_len F xs
    refine ⟨?_, fun _ => ?_, fun c mo acc => ?_⟩
    · unfold tog
      split
      · have := (h3 x 0 []).1
        simp only [List.length_nil] at this
        simp only [List.length_cons]
        omega
      · simp only [List.length_cons]
        omega
    · unfold tog
      split
      · exact (h3 x 0 []).2
      · simp only [List.length_cons]
        omega
    · unfold tog
      split
      · split
        · have := h3 (F c x) mo acc
          simp only [List.length_cons]
          omega
        · have := h3 c (if mo < clsOf x then clsOf x else mo) (acc ++ [x])
          simp only [List.length_append, List.length_cons, List.length_nil] at this ⊢
          omega
      · split
        · have := h3 x 0 []
          simp only [List.length_append, List.length_cons, List.length_nil] at this ⊢
          omega
        · simp only [List.length_append, List.length_cons]
          omega
/-- texts put together, as both sides have them -/
def okTg (tx : List (List Int)) (tg : Nat → List Int) : Prop := ∀ t, t < tx.length → 1 ≤ (tg t).length ∧ (tg t).length ≤ 30
def lenE (tg : Nat → List Int) (e : EnT) : Int := ((tg (enT e)).length : Int) + 3 * ((grpL (enL e)).length : Int) + 3 * (popN 24 (enO e) : Int) + (if enK e = 2 then 1 else 0) + (if enX e ≠ -1 then 5 else 0) + (if enP e ≠ -1 then 2 else 0)
def lnE (tg : Nat → List Int) (w : Int) (e : EnT) : Int := (lenE tg e + w - 1) / w
theorem lnE_in {tg : Nat → List Int} {w : Int} {e : EnT} (hw : 4 ≤ w ∧ w ≤ 40) (h : 1 ≤ lenE tg e ∧ lenE tg e ≤ 200) : 1 ≤ lnE tg w e ∧ lnE tg w e ≤ 240 := by
  unfold lnE
  refine ⟨Int.le_ediv_of_mul_le (by omega) (by omega), ?_⟩
  have := Int.ediv_le_self w (show 0 ≤ lenE tg e + w - 1 by omega)
  omega
theorem lenE_in {tx : List (List Int)} {tg : Nat → List Int} {e : EnT} (hg : okTg tx tg) (ht : enT e < tx.length) (hL : okLoc (enL e) (enM e)) : 1 ≤ lenE tg e ∧ lenE tg e ≤ 200 := by
  have h1 := hg _ ht
  have h2 := grpL_len hL.1 hL.2.1
  have h3 := hL.2.2.2.2.1
  have h4 := popN_le (enO e) 24
  unfold lenE
  split <;> split <;> split <;> omega
/-- does an entry begin a new column: lines used, lines wanted, a sub-entry, beneath a heading of its own -/
abbrev neuP (h u l : Int) (s d : Bool) : Prop := 0 < u ∧ (h - u = 0 ∨ (h - u < l ∧ (if s = true then l + 1 else l) ≤ h) ∨ (h - u = 1 ∧ d = true))
abbrev cSt : Type := Int × Int × Int
section COLS
variable (h : Int) (sb : Nat → Bool) (hg ln : Nat → Int)
def isHd (abv : Int) (e : Nat) : Bool := !sb e && decide (hg e ≠ -1) && decide (hg e ≠ abv)
def colL (st : cSt) (e : Nat) : Int := ln e + (if isHd sb hg st.2.2 e = true then 1 else 0)
def colN (st : cSt) (e : Nat) : Bool := decide (neuP h st.2.1 (colL sb hg ln st e) (sb e) (isHd sb hg st.2.2 e))
def colC1 (st : cSt) (e : Nat) : Int := if colN h sb hg ln st e = true then st.1 + 1 else st.1
def colU1 (st : cSt) (e : Nat) : Int := if colN h sb hg ln st e = true then 0 else st.2.1
def colU2 (st : cSt) (e : Nat) : Int := colU1 h sb hg ln st e + (if isHd sb hg st.2.2 e = true ∨ (sb e = true ∧ colU1 h sb hg ln st e = 0) then 1 else 0)
def colNx (st : cSt) (e : Nat) : cSt := (colC1 h sb hg ln st e + (colU2 h sb hg ln st e + ln e - 1) / h, (colU2 h sb hg ln st e + ln e - 1) % h + 1, if sb e = true then st.2.2 else hg e)
def colF (x : Nat) : cSt → List Nat → Int
  | _, [] => -1
  | st, e :: es => if e = x then 100 * colC1 h sb hg ln st e + colU2 h sb hg ln st e else colF x (colNx h sb hg ln st e) es
variable {h} {sb} {hg} {ln}
/-- what holds of the state behind i entries -/
def colOk (h : Int) (i : Nat) (st : cSt) : Prop := (0 ≤ st.1 ∧ st.1 ≤ 300 * i) ∧ (0 ≤ st.2.1 ∧ st.2.1 ≤ h) ∧ -1 ≤ st.2.2 ∧ st.2.2 < 1000
theorem colU_in {i : Nat} {st : cSt} (hh : 4 ≤ h ∧ h ≤ 40) (hs : colOk h i st) (e : Nat) : (0 ≤ colC1 h sb hg ln st e ∧ colC1 h sb hg ln st e ≤ 300 * i + 1) ∧ (0 ≤ colU1 h sb hg ln st e ∧ colU1 h sb hg ln st e < h) ∧ 0 ≤ colU2 h sb hg ln st e ∧ colU2 h sb hg ln st e < h := by
  obtain ⟨h1, h2, h3⟩ := hs
  unfold colU2 colU1 colC1
  by_cases g : colN h sb hg ln st e = true
  · rw [if_pos g, if_pos g]
    refine ⟨by omega, by omega, ?_⟩
    split <;> omega
  · rw [if_neg g, if_neg g]
    have g2 : ¬ neuP h st.2.1 (colL sb hg ln st e) (sb e) (isHd sb hg st.2.2 e) := fun g3 => g (decide_eq_true g3)
    have g4 : 0 < st.2.1 → ¬ h - st.2.1 = 0 := fun g5 g6 => g2 ⟨g5, Or.inl g6⟩
    have g7 : 0 < st.2.1 → isHd sb hg st.2.2 e = true → ¬ h - st.2.1 = 1 := fun g5 g8 g6 => g2 ⟨g5, Or.inr (Or.inr ⟨g6, g8⟩)⟩
    refine ⟨by omega, by omega, ?_⟩
    split
    · rename_i g9
      rcases g9 with g9 | g9
      · by_cases g10 : 0 < st.2.1
        · have := g7 g10 g9
          have := g4 g10
          omega
        · omega
      · omega
    · omega
theorem colNx_ok {i : Nat} {st : cSt} (hh : 4 ≤ h ∧ h ≤ 40) (hs : colOk h i st) (e : Nat) (hl : 1 ≤ ln e ∧ ln e ≤ 240) (hg2 : -1 ≤ hg e ∧ hg e < 1000) : colOk h (i + 1) (colNx h sb hg ln st e) := by
  have hu := colU_in (sb := sb) (hg := hg) (ln := ln) hh hs e
  have e1 := Int.ediv_nonneg (show 0 ≤ colU2 h sb hg ln st e + ln e - 1 by omega) (show 0 ≤ h by omega)
  have e2 := Int.ediv_le_self h (show 0 ≤ colU2 h sb hg ln st e + ln e - 1 by omega)
  have e3 := Int.emod_nonneg (colU2 h sb hg ln st e + ln e - 1) (show h ≠ 0 by omega)
  have e4 := Int.emod_lt_of_pos (colU2 h sb hg ln st e + ln e - 1) (show 0 < h by omega)
  refine ⟨⟨?_, ?_⟩, ⟨?_, ?_⟩, ?_⟩
  · show 0 ≤ colC1 h sb hg ln st e + (colU2 h sb hg ln st e + ln e - 1) / h
    omega
  · show colC1 h sb hg ln st e + (colU2 h sb hg ln st e + ln e - 1) / h ≤ 300 * ((i + 1 : Nat) : Int)
    omega
  · show 0 ≤ (colU2 h sb hg ln st e + ln e - 1) % h + 1
    omega
  · show (colU2 h sb hg ln st e + ln e - 1) % h + 1 ≤ h
    omega
  · show -1 ≤ (if sb e = true then st.2.2 else hg e) ∧ (if sb e = true then st.2.2 else hg e) < 1000
    have := hs.2.2
    split <;> omega
/-- lines used then, as the class counts them -/
theorem col_full {u : Int} (hh : 4 ≤ h) (hu : 1 ≤ u) : (if h < u then (u - 1) / h else 0) = (u - 1) / h ∧ u - (u - 1) / h * h = (u - 1) % h + 1 := by
  constructor
  · split
    · rfl
    · exact (Int.ediv_eq_zero_of_lt (by omega) (by omega)).symm
  · have := Int.emod_add_mul_ediv (u - 1) h
    rw [Int.mul_comm]
    omega
end COLS
