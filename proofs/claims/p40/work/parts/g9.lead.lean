/-! Where entries lead; lines of lemmas without readings; numbers. -/
section LEAD
variable {Ls N N1 k pc n a b c d q kk X j p : Nat} {L : mLs} {r : List mV} {σ σ' σ0 σ1 σ2 : Sg} {post : tP} {i x y z v w e : Int} {en : List EnT} {ws rs : List Int} {rd : Nat → List Int} {l : List Int}
theorem wlk_in (hR : okRf en) : ∀ (d : Nat) (e : Int), -1 ≤ e ∧ e < (en.length : Int) → wlk en d e = -1 ∨ (0 ≤ wlk en d e ∧ wlk en d e < (en.length : Int) ∧ lcd en (wlk en d e).toNat) := by
  intro d
  induction d with
  | zero => intro e _; exact Or.inl rfl
  | succ d ih =>
    intro e he
    unfold wlk
    split
    · exact Or.inl rfl
    · split
      · rename_i c1 c2
        exact Or.inr ⟨by omega, he.2, c2⟩
      · exact ih _ (nxE_in hR he)
theorem endE_in (hR : okRf en) (he : 0 ≤ e ∧ e < (en.length : Int)) : endE en e = -1 ∨ (0 ≤ endE en e ∧ endE en e < (en.length : Int) ∧ endE en (endE en e) = endE en e) := by
  rcases wlk_in hR (en.length + 1) e ⟨by omega, he.2⟩ with g | ⟨g1, g2, g3⟩
  · exact Or.inl g
  · refine Or.inr ⟨g1, g2, ?_⟩
    show wlk en (en.length + 1) (wlk en (en.length + 1) e) = wlk en (en.length + 1) e
    generalize wlk en (en.length + 1) e = f at *
    unfold wlk
    rw [if_neg (by omega), if_pos g3]
theorem endE_self (ha : a < en.length) (hl : enL (en.getD a enD) ≠ []) : endE en (a : Int) = (a : Int) := by
  show wlk en (en.length + 1) (a : Int) = _
  unfold wlk
  rw [if_neg (by omega), if_pos]
  exact lcd_iff.mpr ⟨a, ha, Or.inl rfl, hl⟩
/-! lines -/
theorem filt_len (f : Int → Bool) : ∀ (ws : List Int), ((List.range ws.length).filter (fun p => f (ws.getD p 0))).length = (ws.filter f).length := by
  intro ws
  induction ws with
  | nil => rfl
  | cons w ws ih =>
    rw [List.length_cons, List.range_succ_eq_map, List.filter_cons, List.filter_cons, List.filter_map]
    have e : ((List.range ws.length).filter ((fun p => f ((w :: ws).getD p 0)) ∘ Nat.succ)) = (List.range ws.length).filter (fun p => f (ws.getD p 0)) := rfl
    rw [e]
    by_cases c : f w = true
    · rw [if_pos c, if_pos (show f ((w :: ws).getD 0 0) = true from c), List.length_cons, List.length_cons, List.length_map, ih]
    · rw [if_neg c, if_neg (show ¬ f ((w :: ws).getD 0 0) = true from c), List.length_map, ih]
/-- words of the texts below j -/
def cntW (ws : List Int) (j : Nat) : Nat := (ws.filter (fun w => decide (w < (j : Int)))).length
theorem lns_len (hr : rs.length = ws.length) (h1 : ∀ r ∈ rs, r = -1) (h2 : ∀ i, rd i = []) (x : Int) : (lnsL ws rs rd x).length = (ws.filter (fun w => decide (w = x))).length := by
  rw [← filt_len]
  unfold lnsL
  congr 1
  refine List.filter_congr fun p hp => ?_
  have hp2 := List.mem_range.mp hp
  unfold ownB
  rw [h1 _ (getD_mem (l := rs) (p := p) (by omega)), if_neg (by decide), if_pos (h2 _)]
theorem cntW_succ : ∀ (ws : List Int) (j : Nat), cntW ws (j + 1) = cntW ws j + (ws.filter (fun w => decide (w = (j : Int)))).length := by
  intro ws
  unfold cntW
  induction ws with
  | nil => intro j; rfl
  | cons w ws ih =>
    intro j
    have := ih j
    rw [List.filter_cons, List.filter_cons, List.filter_cons]
    by_cases c1 : w < (j : Int)
    · rw [if_pos (by simp; omega), if_pos (by simpa using c1), if_neg (by simp; omega), List.length_cons, List.length_cons, this]
      omega
    · by_cases c2 : w = (j : Int)
      · rw [if_pos (by simp; omega), if_neg (by simpa using c1), if_pos (by simpa using c2), List.length_cons, List.length_cons, this]
        omega
      · rw [if_neg (by simp; omega), if_neg (by simpa using c1), if_neg (by simpa using c2), this]
theorem cntW_zero (h : ∀ w ∈ ws, 0 ≤ w ∧ w < (n : Int)) : cntW ws 0 = 0 := by
  unfold cntW
  rw [List.filter_eq_nil_iff.mpr]
  · rfl
  · intro w hw
    have := h w hw
    simp
    omega
theorem cntW_all (h : ∀ w ∈ ws, 0 ≤ w ∧ w < (n : Int)) : cntW ws n = ws.length := by
  unfold cntW
  rw [List.filter_eq_self.mpr]
  intro w hw
  have := h w hw
  simp
  omega
/-! numbers -/
theorem and_mask (A : Int32) {m : Nat} (hm : m < 2 ^ 31) : ∃ t : Nat, t ≤ m ∧ (A &&& Int32.ofInt (m : Int)).toInt = (t : Int) := by
  have e1 : (A &&& Int32.ofInt (m : Int)).toBitVec.toNat = A.toBitVec.toNat &&& m := by
    show (A.toBitVec &&& (Int32.ofInt (m : Int)).toBitVec).toNat = _
    rw [BitVec.toNat_and, w_of, w_tb, BitVec.toNat_ofNat, Nat.mod_eq_of_lt (by omega)]
  have e2 : A.toBitVec.toNat &&& m ≤ m := Nat.and_le_right
  refine ⟨A.toBitVec.toNat &&& m, e2, ?_⟩
  show (A &&& Int32.ofInt (m : Int)).toBitVec.toInt = _
  rw [BitVec.toInt_eq_toNat_of_lt (by omega), e1]
theorem tr_remn (ha : a < 2147483648) (hb : 0 < b ∧ b < 2147483648) {n1 a1 b1 c1 : Nat} (he : mPg.1 k pc = some (.irem, n1, a1, b1, c1)) (K : Tr Ls N k (pc + n1) L (mI ((a % b : Nat) : Int) :: r) σ post) : Tr Ls N k pc L (mI (b : Int) :: mI (a : Int) :: r) σ post := by
  refine tr_rem (by omega) (by omega) he ?_
  rw [← Int.natCast_emod]
  exact K
theorem tr_shrn (ha : a < 2147483648) (hp : p < 31) {n1 a1 b1 c1 : Nat} (he : mPg.1 k pc = some (.ishr, n1, a1, b1, c1)) (K : Tr Ls N k (pc + n1) L (mI ((a / 2 ^ p : Nat) : Int) :: r) σ post) : Tr Ls N k pc L (mI (p : Int) :: mI (a : Int) :: r) σ post := by
  refine tr_mv he (fun h => rfl) ?_
  refine tr_top (w_shr (by omega) hp) ?_
  exact K
theorem tr_and1 (ha : a < 2147483648) {n1 a1 b1 c1 : Nat} (he : mPg.1 k pc = some (.iand, n1, a1, b1, c1)) (K : Tr Ls N k (pc + n1) L (mI ((a % 2 : Nat) : Int) :: r) σ post) : Tr Ls N k pc L (mI 1 :: mI (a : Int) :: r) σ post := by
  refine tr_mv he (fun h => rfl) ?_
  refine tr_top (w_a1 (by omega)) ?_
  exact K
theorem tr_andm {m : Nat} (hm : m < 2147483648) {n1 a1 b1 c1 : Nat} (he : mPg.1 k pc = some (.iand, n1, a1, b1, c1)) (K : ∀ t : Nat, t ≤ m → Tr Ls N k (pc + n1) L (mI (t : Int) :: r) σ post) : Tr Ls N k pc L (mI (m : Int) :: mI x :: r) σ post := by
  obtain ⟨t, h1, h2⟩ := and_mask (Int32.ofInt x) (m := m) (by omega)
  refine tr_mv he (fun h => rfl) ?_
  refine tr_top h2 ?_
  exact K t h1
end LEAD
