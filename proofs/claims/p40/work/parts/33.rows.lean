/-! The class Row's methods as steps of a triple. -/
def rput (n : Nat) (xs : List Int) (v : Int) : List Int := if xs.length < n then xs ++ [v] else xs
def rset (xs : List Int) (i v : Int) : List Int := if 0 ≤ i ∧ i < xs.length then xs.set i.toNat v else xs
def rins (n : Nat) (xs : List Int) (i v : Int) : List Int := if 0 ≤ i ∧ i ≤ xs.length ∧ xs.length < n then xs.insertIdx i.toNat v else xs
def rrem (xs : List Int) (i : Int) : List Int := if 0 ≤ i ∧ i < xs.length then xs.eraseIdx i.toNat else xs
theorem mShp_small : ∀ q ∈ mShp, q.2 < 1000 := by decide +kernel
section ROWS
variable {Ls N k pc n nn b c t a : Nat} {L : mLs} {st r : List mV} {h h' : mH} {σ : Sg} {post : tP} {x y i : Int} {xs : List Int}
theorem isRow_small (ha : isRow a n) : n < 1000 := mShp_small _ (List.mem_of_getElem? ha.2.2)
theorem rep_rsh (hr : rep Ls h σ) (ha : isRow a n) : rsh h.1 a n := ⟨by rw [rep_shp hr (by have := ha.1; omega)]; exact ha.2.1, by rw [rep_shp hr (by omega)]; exact ha.2.2, ha.1, by have := isRow_small ha; omega⟩
theorem rep_row (hr : rep Ls h σ) (ha : isRow a n) : rowIs h a n (σ.1 a) := by
  obtain ⟨g1, g2, g3, g4, g5⟩ := hr.2.1 a n ha
  exact ⟨rep_rsh hr ha, g1, g2, g3, g4⟩
theorem rep_in (hr : rep Ls h σ) (ha : isRow a n) : ∀ x ∈ σ.1 a, in32 x := (hr.2.1 a n ha).2.2.2.2
theorem rep_len (hr : rep Ls h σ) (ha : isRow a n) : (σ.1 a).length ≤ n := (hr.2.1 a n ha).2.2.1
theorem isRow_sep {a a' n n' : Nat} (h1 : isRow a n) (h2 : isRow a' n') : a' ≠ a + 1 := by
  intro e
  subst e
  have := h1.2.2.symm.trans h2.2.1
  simp at this
theorem mPts_row : ∀ q ∈ mPts, mShp[q.1]? ≠ some (24, 2) ∧ ∀ kd n, mShp[q.1]? = some (kd, n) → kd ≠ 0 := by
  intro q hq
  have h0 : mPts.all (fun q => match mShp[q.1]? with
    | some p => !(p.1 == 24) && !(p.1 == 0)
    | none => false) = true := by decide +kernel
  have h1 := List.all_eq_true.mp h0 q hq
  refine ⟨fun e => ?_, fun kd' n' e => ?_⟩
  · rw [e] at h1
    cases h1
  · rw [e] at h1
    intro e9
    subst e9
    cases h1
theorem mPf_mem : ∀ {l : List (Nat × List (Option Nat))} {a j v : Nat}, mPf l a j = some v → ∃ q ∈ l, q.1 = a
  | [], _, _, _, h => by cases h
  | q :: l, a, j, v, h => by
    unfold mPf at h
    cases hb : Nat.beq q.1 a with
    | true => exact ⟨q, List.mem_cons_self, Nat.eq_of_beq_eq_true hb⟩
    | false =>
      rw [hb] at h
      obtain ⟨q', g1, g2⟩ := mPf_mem (l := l) h
      exact ⟨q', List.mem_cons_of_mem _ g1, g2⟩
theorem ptr_row {q j v : Nat} (hp : mPtr q j = some v) (ha : isRow a n) : q ≠ a ∧ q ≠ a + 1 := by
  obtain ⟨p, g1, rfl⟩ := mPf_mem hp
  obtain ⟨k1, k2⟩ := mPts_row p g1
  refine ⟨fun e => k1 (by rw [e]; exact ha.2.1), fun e => k2 0 n (by rw [e]; exact ha.2.2) rfl⟩
theorem rowC_not {q : Nat} (h1 : rowC q = false) (ha : isRow a n) : q ≠ a ∧ q ≠ a + 1 := by
  refine ⟨fun e => ?_, fun e => ?_⟩
  · subst e
    unfold rowC at h1
    rw [decide_eq_true ha.2.1] at h1
    simp at h1
  · subst e
    unfold rowC at h1
    dsimp only at h1
    rw [decide_eq_true ha.2.1, Bool.or_true] at h1
    cases h1
theorem rep_setR (hr : rep Ls h σ) (ha : isRow a n) (e1 : h'.1 = h.1) (e2 : ∀ q, q ≠ a → q ≠ a + 1 → h'.2.1 q = h.2.1 q) (e3 : h'.2.1 a 0 = ((a + 1 : Nat) : Int)) (e4 : h'.2.1 a 1 = (xs.length : Int)) (e5 : xs.length ≤ n) (e6 : ∀ i, i < xs.length → h'.2.1 (a + 1) i = xs.getD i 0) (e7 : ∀ x ∈ xs, in32 x) : rep Ls h' (setR σ a xs) := by
  obtain ⟨r1, r2, r3, r4, r5, r6⟩ := hr
  refine ⟨e1.trans r1, fun b m hb => ?_, fun q j v hp => ?_, fun q j h1 h2 => ?_, r5, r6⟩
  · by_cases hba : b = a
    · subst hba
      have hm : m = n := by
        have := hb.2.2.symm.trans ha.2.2
        cases this
        rfl
      subst hm
      unfold setR
      dsimp only
      rw [if_pos rfl]
      exact ⟨e3, e4, e5, e6, e7⟩
    · have g1 := isRow_sep ha hb
      have g2 := isRow_sep hb ha
      unfold setR
      dsimp only
      rw [if_neg hba, e2 b hba g1, e2 (b + 1) (Ne.symm g2) (by omega)]
      exact r2 b m hb
  · obtain ⟨g1, g2⟩ := ptr_row hp ha
    rw [e2 q g1 g2]
    exact r3 q j v hp
  · obtain ⟨g1, g2⟩ := rowC_not h1 ha
    rw [e2 q g1 g2]
    exact r4 q j h1 h2
theorem rget_in (hx : ∀ x ∈ xs, in32 x) (i : Int) : in32 (rget xs i) := by
  unfold rget
  split
  · rename_i h1
    rw [List.getD_eq_getElem?_getD, List.getElem?_eq_getElem (show i.toNat < xs.length by omega)]
    exact hx _ (List.getElem_mem _)
  · exact ⟨by omega, by omega⟩
theorem setR_self (σ : Sg) (a : Nat) : setR σ a (σ.1 a) = σ := by
  unfold setR
  refine Prod.ext (funext fun b => ?_) rfl
  dsimp only
  split
  · rename_i e; rw [e]
  · rfl
theorem tr_size {j : Nat} (ha : isRow a n) (he : mPg.1 k pc = some (.invokevirtual j, 3, 93, 0, 8)) (hst : Nat.ble (r.map mcat).sum 8 = true) (K : Tr Ls N k (pc + 3) L (mI (σ.1 a).length :: r) σ post) : Tr Ls N k pc L (mP (some a) :: r) σ post :=
  tr_rn he (as := [mP (some a)]) (fun h hr => by
    simp only [mstep]
    rw [show (mP (some a) :: r)[0]? = some (mP (some a)) from rfl, if_pos (rep_obj hr ⟨ha.1, ha.2.1⟩)]
    unfold mcall
    rw [if_pos ⟨by simp, rfl, Nat.le_of_ble_eq_true hst⟩]
    rfl) (fun h hr => ⟨h, row_size (rep_row hr ha), hr⟩) K
theorem tr_isEmpty {j : Nat} (ha : isRow a n) (he : mPg.1 k pc = some (.invokevirtual j, 3, 94, 0, 8)) (hst : Nat.ble (r.map mcat).sum 8 = true) (K : Tr Ls N k (pc + 3) L (mI (if σ.1 a = [] then 1 else 0) :: r) σ post) : Tr Ls N k pc L (mP (some a) :: r) σ post :=
  tr_rn he (as := [mP (some a)]) (fun h hr => by
    simp only [mstep]
    rw [show (mP (some a) :: r)[0]? = some (mP (some a)) from rfl, if_pos (rep_obj hr ⟨ha.1, ha.2.1⟩)]
    unfold mcall
    rw [if_pos ⟨by simp, rfl, Nat.le_of_ble_eq_true hst⟩]
    rfl) (fun h hr => ⟨h, row_isEmpty (rep_row hr ha), hr⟩) K
theorem tr_at {j : Nat} (ha : isRow a n) (he : mPg.1 k pc = some (.invokevirtual j, 3, 95, 1, 8)) (hst : Nat.ble (r.map mcat).sum 8 = true) (K : Tr Ls N k (pc + 3) L (mI (rget (σ.1 a) (m32 i)) :: r) σ post) : Tr Ls N k pc L (mI i :: mP (some a) :: r) σ post :=
  tr_rn he (as := [mP (some a), mI i]) (fun h hr => by
    simp only [mstep]
    rw [show (mI i :: mP (some a) :: r)[1]? = some (mP (some a)) from rfl, if_pos (rep_obj hr ⟨ha.1, ha.2.1⟩)]
    unfold mcall
    rw [if_pos ⟨by simp, rfl, Nat.le_of_ble_eq_true hst⟩]
    rfl) (fun h hr => ⟨h, row_at (rep_row hr ha) i, hr⟩) K
theorem tr_clear {j : Nat} (ha : isRow a n) (he : mPg.1 k pc = some (.invokevirtual j, 3, 100, 0, 8)) (hst : Nat.ble (r.map mcat).sum 8 = true) (K : Tr Ls N k (pc + 3) L r (setR σ a []) post) : Tr Ls N k pc L (mP (some a) :: r) σ post :=
  tr_rn he (as := [mP (some a)]) (v1 := none) (fun h hr => by
    simp only [mstep]
    rw [show (mP (some a) :: r)[0]? = some (mP (some a)) from rfl, if_pos (rep_obj hr ⟨ha.1, ha.2.1⟩)]
    unfold mcall
    rw [if_pos ⟨by simp, rfl, Nat.le_of_ble_eq_true hst⟩]
    rfl) (fun h hr => ⟨_, row_clear (rep_row hr ha), rep_setR hr ha rfl (fun q h1 h2 => funext fun j => if_neg h1) (by
      show mup h.2.1 a 1 0 a 0 = _
      unfold mup
      rw [if_pos rfl, if_neg (by decide)]
      exact (rep_row hr ha).2.1) (by
      show mup h.2.1 a 1 0 a 1 = _
      unfold mup
      rw [if_pos rfl, if_pos rfl]
      rfl) (Nat.zero_le _) (fun i hi => absurd hi (Nat.not_lt_zero _)) (fun x hx => absurd hx List.not_mem_nil)⟩) K
theorem tr_set {j : Nat} (ha : isRow a n) (hx : in32 x) (he : mPg.1 k pc = some (.invokevirtual j, 3, 96, 2, 8)) (hst : Nat.ble (r.map mcat).sum 8 = true) (K : Tr Ls N k (pc + 3) L r (setR σ a (rset (σ.1 a) (m32 i) x)) post) : Tr Ls N k pc L (mI x :: mI i :: mP (some a) :: r) σ post :=
  tr_rn he (as := [mP (some a), mI i, mI x]) (v1 := none) (fun h hr => by
    simp only [mstep]
    rw [show (mI x :: mI i :: mP (some a) :: r)[2]? = some (mP (some a)) from rfl, if_pos (rep_obj hr ⟨ha.1, ha.2.1⟩)]
    unfold mcall
    rw [if_pos ⟨by simp, rfl, Nat.le_of_ble_eq_true hst⟩]
    rfl) (fun h hr => ⟨_, row_set (rep_row hr ha) i x, by
      obtain ⟨hS, h0, h1, hl, hc⟩ := rep_row hr ha
      unfold rset
      by_cases c0 : 0 ≤ m32 i ∧ m32 i < (σ.1 a).length
      · rw [if_pos c0, if_pos c0]
        refine rep_setR hr ha rfl (fun q g1 g2 => funext fun j => if_neg g2) ?_ ?_ ?_ (fun j hj => ?_) (fun y hy => ?_)
        · show mup h.2.1 (a + 1) _ x a 0 = _
          unfold mup
          rw [if_neg (by omega)]
          exact h0
        · show mup h.2.1 (a + 1) _ x a 1 = _
          unfold mup
          rw [if_neg (by omega), h1, List.length_set]
        · rw [List.length_set]; exact hl
        · show mup h.2.1 (a + 1) _ x (a + 1) j = _
          rw [List.length_set] at hj
          unfold mup
          rw [if_pos rfl, List.getD_eq_getElem?_getD, List.getElem?_set]
          by_cases e : j = (m32 i).toNat
          · rw [if_pos e, if_pos e.symm, if_pos (by omega)]
            rfl
          · rw [if_neg e, if_neg (Ne.symm e), hc j hj, List.getD_eq_getElem?_getD]
        · rcases List.mem_or_eq_of_mem_set hy with g | g
          · exact rep_in hr ha y g
          · rw [g]; exact hx
      · rw [if_neg c0, if_neg c0, setR_self]
        exact hr⟩) K
theorem tr_put {j : Nat} (ha : isRow a n) (hx : in32 x) (he : mPg.1 k pc = some (.invokevirtual j, 3, 97, 1, 8)) (hst : Nat.ble (r.map mcat).sum 8 = true) (K : Tr Ls N k (pc + 3) L r (setR σ a (rput n (σ.1 a) x)) post) : Tr Ls N k pc L (mI x :: mP (some a) :: r) σ post :=
  tr_rn he (as := [mP (some a), mI x]) (v1 := none) (fun h hr => by
    simp only [mstep]
    rw [show (mI x :: mP (some a) :: r)[1]? = some (mP (some a)) from rfl, if_pos (rep_obj hr ⟨ha.1, ha.2.1⟩)]
    unfold mcall
    rw [if_pos ⟨by simp, rfl, Nat.le_of_ble_eq_true hst⟩]
    rfl) (fun h hr => ⟨_, row_put (rep_row hr ha) x, by
      obtain ⟨hS, h0, h1, hl, hc⟩ := rep_row hr ha
      unfold rput
      by_cases c0 : (σ.1 a).length < n
      · rw [if_pos c0, if_pos c0]
        refine rep_setR hr ha rfl (fun q g1 g2 => funext fun j => ?_) ?_ ?_ ?_ (fun j hj => ?_) (fun y hy => ?_)
        · show mup (mup h.2.1 (a + 1) _ x) a 1 _ q j = _
          unfold mup
          rw [if_neg g1, if_neg g2]
        · show mup (mup h.2.1 (a + 1) _ x) a 1 _ a 0 = _
          unfold mup
          rw [if_pos rfl, if_neg (by decide), if_neg (by omega)]
          exact h0
        · show mup (mup h.2.1 (a + 1) _ x) a 1 _ a 1 = _
          unfold mup
          rw [if_pos rfl, if_pos rfl]
          simp
        · simp; omega
        · show mup (mup h.2.1 (a + 1) _ x) a 1 _ (a + 1) j = _
          have hj' : j < (σ.1 a).length + 1 := by simpa using hj
          unfold mup
          rw [if_neg (by omega), if_pos rfl, List.getD_eq_getElem?_getD]
          by_cases e : j = (σ.1 a).length
          · rw [if_pos e, e]
            simp
          · rw [if_neg e, List.getElem?_append_left (by omega), hc j (by omega), List.getD_eq_getElem?_getD]
        · rcases List.mem_append.mp hy with g | g
          · exact rep_in hr ha y g
          · rw [List.mem_singleton.mp g]; exact hx
      · rw [if_neg c0, if_neg c0, setR_self]
        exact hr⟩) K
theorem tr_insert {j : Nat} (ha : isRow a n) (hx : in32 x) (he : mPg.1 k pc = some (.invokevirtual j, 3, 98, 2, 8)) (hst : Nat.ble (r.map mcat).sum 8 = true) (K : Tr Ls N k (pc + 3) L r (setR σ a (rins n (σ.1 a) (m32 i) x)) post) : Tr Ls N k pc L (mI x :: mI i :: mP (some a) :: r) σ post :=
  tr_rn he (as := [mP (some a), mI i, mI x]) (v1 := none) (fun h hr => by
    simp only [mstep]
    rw [show (mI x :: mI i :: mP (some a) :: r)[2]? = some (mP (some a)) from rfl, if_pos (rep_obj hr ⟨ha.1, ha.2.1⟩)]
    unfold mcall
    rw [if_pos ⟨by simp, rfl, Nat.le_of_ble_eq_true hst⟩]
    rfl) (fun h hr => by
      obtain ⟨hS, h0, h1, hl, hc⟩ := rep_row hr ha
      obtain ⟨h2, k1, k2, k3, k4, k5⟩ := row_insert (rep_row hr ha) i x
      refine ⟨h2, k1, ?_⟩
      unfold rins
      by_cases c0 : 0 ≤ m32 i ∧ m32 i ≤ (σ.1 a).length ∧ (σ.1 a).length < n
      · rw [if_pos c0] at k5 ⊢
        obtain ⟨k5, k6⟩ := k5
        have hlen : ((σ.1 a).insertIdx (m32 i).toNat x).length = (σ.1 a).length + 1 := List.length_insertIdx_of_le_length (show (m32 i).toNat ≤ (σ.1 a).length by omega) x
        refine rep_setR hr ha k2 k3 k4 ?_ ?_ (fun j hj => ?_) (fun y hy => ?_)
        · rw [hlen]; exact k5
        · rw [hlen]; omega
        · rw [hlen] at hj
          rw [k6 j, List.getD_eq_getElem?_getD, List.getElem?_insertIdx]
          by_cases e : j = (m32 i).toNat
          · rw [if_pos e, if_neg (by omega), if_pos e, if_pos (by omega)]
            rfl
          · rw [if_neg e]
            by_cases e2 : j < (m32 i).toNat
            · rw [if_neg (by omega), if_pos e2, hc j (by omega), List.getD_eq_getElem?_getD]
            · rw [if_pos (by omega), if_neg e2, if_neg e, hc (j - 1) (by omega), List.getD_eq_getElem?_getD]
        · rcases (List.mem_insertIdx (show (m32 i).toNat ≤ (σ.1 a).length by omega)).mp hy with g | g
          · rw [g]; exact hx
          · exact rep_in hr ha y g
      · rw [if_neg c0] at k5 ⊢
        rw [setR_self, k5]
        exact hr) K
theorem tr_removeAt {j : Nat} (ha : isRow a n) (hi : in32 i) (he : mPg.1 k pc = some (.invokevirtual j, 3, 99, 1, 8)) (hst : Nat.ble (r.map mcat).sum 8 = true) (K : Tr Ls N k (pc + 3) L r (setR σ a (rrem (σ.1 a) i)) post) : Tr Ls N k pc L (mI i :: mP (some a) :: r) σ post :=
  tr_rn he (as := [mP (some a), mI i]) (v1 := none) (fun h hr => by
    simp only [mstep]
    rw [show (mI i :: mP (some a) :: r)[1]? = some (mP (some a)) from rfl, if_pos (rep_obj hr ⟨ha.1, ha.2.1⟩)]
    unfold mcall
    rw [if_pos ⟨by simp, rfl, Nat.le_of_ble_eq_true hst⟩]
    rfl) (fun h hr => by
      obtain ⟨hS, h0, h1, hl, hc⟩ := rep_row hr ha
      obtain ⟨h2, k1, k2, k3, k4, k5⟩ := row_remove (rep_row hr ha) i hi
      refine ⟨h2, k1, ?_⟩
      unfold rrem
      by_cases c0 : 0 ≤ i ∧ i < (σ.1 a).length
      · rw [if_pos c0] at k5 ⊢
        obtain ⟨k5, k6⟩ := k5
        have hlen : ((σ.1 a).eraseIdx i.toNat).length = (σ.1 a).length - 1 := List.length_eraseIdx_of_lt (by omega)
        refine rep_setR hr ha k2 k3 k4 ?_ ?_ (fun j hj => ?_) (fun y hy => ?_)
        · rw [hlen, k5]; omega
        · rw [hlen]; omega
        · rw [hlen] at hj
          rw [k6 j, List.getD_eq_getElem?_getD, List.getElem?_eraseIdx]
          by_cases e : j < i.toNat
          · rw [if_neg (by omega), if_pos e, hc j (by omega), List.getD_eq_getElem?_getD]
          · rw [if_pos (by omega), if_neg e, hc (j + 1) (by omega), List.getD_eq_getElem?_getD]
        · exact rep_in hr ha y (List.mem_of_mem_eraseIdx hy)
      · rw [if_neg c0] at k5 ⊢
        rw [setR_self, k5]
        exact hr) K
theorem tr_placeOf {j : Nat} (ha : isRow a n) (hx : in32 x) (he : mPg.1 k pc = some (.invokevirtual j, 3, 103, 1, 8)) (hst : Nat.ble (r.map mcat).sum 8 = true) (K : Tr Ls N k (pc + 3) L (mI (rplace (σ.1 a) x) :: r) σ post) : Tr Ls N k pc L (mI x :: mP (some a) :: r) σ post :=
  tr_rn he (as := [mP (some a), mI x]) (fun h hr => by
    simp only [mstep]
    rw [show (mI x :: mP (some a) :: r)[1]? = some (mP (some a)) from rfl, if_pos (rep_obj hr ⟨ha.1, ha.2.1⟩)]
    unfold mcall
    rw [if_pos ⟨by simp, rfl, Nat.le_of_ble_eq_true hst⟩]
    rfl) (fun h hr => ⟨h, row_placeOf (rep_row hr ha) hx (rep_in hr ha), hr⟩) K
end ROWS
