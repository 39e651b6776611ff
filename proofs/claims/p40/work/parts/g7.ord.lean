/-! An index' order and its columns: what the law's isIndex rests on. -/
/-- sub-entries stand behind their own -/
def adjc (pr : Nat → Int) : Int → List Nat → Prop
  | _, [] => True
  | m, e :: r => (pr e = -1 ∨ pr e = m) ∧ adjc pr (if pr e = -1 then (e : Int) else m) r
section ORD
variable {kf : Nat → List Int} {pr : Nat → Int} {inI : Nat → Bool} {n k X a p : Nat} {m : Int} {tx : List (List Int)} {en : List EnT} {D : TD} {o hd : Nat → Int} {l rest : List Nat} {h hh ww : Int} {sb : Nat → Bool} {hg ln : Nat → Int} {st : cSt} {tg : Nat → List Int}
theorem adjc_subs (hm : m ≠ -1) : ∀ (l rest : List Nat), (∀ x ∈ l, pr x = m) → adjc pr m rest → adjc pr m (l ++ rest) := by
  intro l
  induction l with
  | nil => intro rest _ h; exact h
  | cons x l ih =>
    intro rest hx h
    have e := hx x List.mem_cons_self
    refine ⟨Or.inr e, ?_⟩
    rw [if_neg (by rw [e]; exact hm)]
    exact ih rest (fun y hy => hx y (List.mem_cons_of_mem _ hy)) h
theorem adjc_tops : ∀ (ts : List Nat) (m : Int), (∀ t ∈ ts, pr t = -1) → adjc pr m (ts.flatMap (fun t => t :: subsL kf pr n t)) := by
  intro ts
  induction ts with
  | nil => intro m _; exact trivial
  | cons t ts ih =>
    intro m ht
    have e := ht t List.mem_cons_self
    rw [List.flatMap_cons]
    refine ⟨Or.inl e, ?_⟩
    rw [if_pos e]
    exact adjc_subs (by omega) _ _ (fun x hx => ((subs_spec (kf := kf) (pr := pr) (n := n) t).2 x).mp hx |>.2) (ih _ (fun t ht' => ht t (List.mem_cons_of_mem _ ht')))
theorem adjc_ord (m : Int) : adjc pr m (ordL kf pr inI n) := adjc_tops _ m (fun t ht => ((tops_spec (kf := kf) (pr := pr) (inI := inI) (n := n)).2 t).mp ht |>.2.2)
/-- the main entry of the one at the place k, from m on -/
theorem adjc_drop : ∀ (l : List Nat) (m : Int) (k : Nat), adjc pr m l → ∃ m', adjc pr m' (l.drop k) := by
  intro l
  induction l with
  | nil => intro m k _; exact ⟨m, by rw [List.drop_nil]; exact trivial⟩
  | cons e l ih =>
    intro m k h
    match k with
    | 0 => exact ⟨m, h⟩
    | k + 1 => exact ih _ k h.2
theorem ordL_nodup (hok : okPr pr inI n) : (ordL kf pr inI n).Nodup := (ordL_spec (kf := kf) hok).1.imp (fun h => h.1)
theorem nsub_len : ∀ {l1 l2 : List Nat}, l1.Nodup → (∀ x ∈ l1, x ∈ l2) → l1.length ≤ l2.length := by
  intro l1 l2 h1 h2
  have := sub_len (l1 := ci l1) (l2 := ci l2) (by
    unfold ci
    refine List.Pairwise.map _ (fun a b hab => ?_) h1
    omega) (fun x hx => by
    obtain ⟨e, he, rfl⟩ := List.mem_map.mp hx
    exact List.mem_map.mpr ⟨e, h2 e he, rfl⟩)
  rw [List.length_map, List.length_map] at this
  exact this
/-- how many entries are in an index -/
def cntI (en : List EnT) (X : Nat) : Nat → Nat
  | 0 => 0
  | k + 1 => cntI en X k + enS (en.getD k enD) / 2 ^ X % 2
theorem cntI_eq (en : List EnT) (X : Nat) : ∀ k, cntI en X k = ((List.range k).filter (inE en X)).length := by
  intro k
  induction k with
  | zero => rfl
  | succ k ih =>
    have e : cntI en X (k + 1) = cntI en X k + enS (en.getD k enD) / 2 ^ X % 2 := rfl
    rw [e, range_filter_succ, List.length_append, ← ih]
    unfold inE
    by_cases c : enS (en.getD k enD) / 2 ^ X % 2 = 1
    · rw [if_pos (decide_eq_true c), c]
      rfl
    · rw [if_neg (by simpa using c)]
      have : enS (en.getD k enD) / 2 ^ X % 2 = 0 := by omega
      rw [this]
      rfl
theorem ordE_cnt (hE : okEn tx en) (X : Nat) : (ordE tx en D o X).length = cntI en X en.length := by
  rw [cntI_eq]
  have h1 := nsub_len (l1 := ordE tx en D o X) (l2 := (List.range en.length).filter (inE en X)) (ordL_nodup (okEn_pr hE X)) (fun x hx => by
    obtain ⟨g1, g2⟩ := (ordE_mem hE X).mp hx
    exact List.mem_filter.mpr ⟨List.mem_range.mpr g1, g2⟩)
  have h2 := nsub_len (l1 := (List.range en.length).filter (inE en X)) (l2 := ordE tx en D o X) ((range_lt _ _).imp (fun h => Nat.ne_of_lt h)) (fun x hx => by
    obtain ⟨g1, g2⟩ := List.mem_filter.mp hx
    exact (ordE_mem hE X).mpr ⟨List.mem_range.mp g1, g2⟩)
  omega
/-! columns -/
def colV (h : Int) (sb : Nat → Bool) (hg ln : Nat → Int) (st : cSt) (e : Nat) : Int := 100 * colC1 h sb hg ln st e + colU2 h sb hg ln st e
def stK (h : Int) (sb : Nat → Bool) (hg ln : Nat → Int) (st : cSt) (l : List Nat) (k : Nat) : cSt := (l.take k).foldl (colNx h sb hg ln) st
theorem col_at : ∀ (l : List Nat) (st : cSt) (k : Nat), l.Nodup → k < l.length → colF h sb hg ln (l.getD k 0) st l = colV h sb hg ln (stK h sb hg ln st l k) (l.getD k 0) := by
  intro l
  induction l with
  | nil => intro st k _ hk; simp at hk
  | cons e l ih =>
    intro st k hn hk
    obtain ⟨n1, n2⟩ := List.nodup_cons.mp hn
    unfold colF
    match k with
    | 0 =>
      exact if_pos (show e = (e :: l).getD 0 0 from rfl)
    | k + 1 =>
      have hk2 : k < l.length := by rw [List.length_cons] at hk; omega
      have hm : l.getD k 0 ∈ l := by
        rw [List.getD_eq_getElem?_getD, List.getElem?_eq_getElem hk2]
        exact List.getElem_mem hk2
      rw [if_neg (fun e1 => n1 (by rw [e1]; exact hm))]
      exact ih _ k n2 hk2
theorem stK_succ {l : List Nat} (hk : k < l.length) : stK h sb hg ln st l (k + 1) = colNx h sb hg ln (stK h sb hg ln st l k) (l.getD k 0) := by
  unfold stK
  rw [List.take_succ, List.getElem?_eq_getElem hk, Option.toList_some, List.foldl_append, List.getD_eq_getElem?_getD, List.getElem?_eq_getElem hk]
  rfl
theorem stK_ok (hh4 : 4 ≤ h ∧ h ≤ 40) (hl : ∀ e ∈ l, (1 ≤ ln e ∧ ln e ≤ 240) ∧ -1 ≤ hg e ∧ hg e < 1000) : ∀ k, k ≤ l.length → colOk h k (stK h sb hg ln (0, 0, -1) l k) := by
  intro k
  induction k with
  | zero =>
    intro _
    show colOk h 0 (0, 0, -1)
    unfold colOk
    dsimp only
    omega
  | succ k ih =>
    intro hk
    rw [stK_succ (by omega)]
    have hm : l.getD k 0 ∈ l := by
      rw [List.getD_eq_getElem?_getD, List.getElem?_eq_getElem (by omega : k < l.length)]
      exact List.getElem_mem _
    exact colNx_ok hh4 (ih (by omega)) _ (hl _ hm).1 (hl _ hm).2
theorem col_lt {i e e' : Nat} (hh4 : 4 ≤ h ∧ h ≤ 40) (hs : colOk h i st) (hl : (1 ≤ ln e ∧ ln e ≤ 240) ∧ -1 ≤ hg e ∧ hg e < 1000) : colV h sb hg ln st e < colV h sb hg ln (colNx h sb hg ln st e) e' := by
  have hu := colU_in (sb := sb) (hg := hg) (ln := ln) hh4 hs e
  have hu2 := colU_in (sb := sb) (hg := hg) (ln := ln) hh4 (colNx_ok (sb := sb) hh4 hs e hl.1 hl.2) e'
  have e1 : (colNx h sb hg ln st e).1 = colC1 h sb hg ln st e + (colU2 h sb hg ln st e + ln e - 1) / h := rfl
  have e2 : (colNx h sb hg ln st e).2.1 = (colU2 h sb hg ln st e + ln e - 1) % h + 1 := rfl
  have e3 := Int.ediv_nonneg (show 0 ≤ colU2 h sb hg ln st e + ln e - 1 by omega) (show 0 ≤ h by omega)
  have e4 := Int.emod_add_mul_ediv (colU2 h sb hg ln st e + ln e - 1) h
  have e5 : colC1 h sb hg ln (colNx h sb hg ln st e) e' = if colN h sb hg ln (colNx h sb hg ln st e) e' = true then (colNx h sb hg ln st e).1 + 1 else (colNx h sb hg ln st e).1 := rfl
  have e6 : colU1 h sb hg ln (colNx h sb hg ln st e) e' = if colN h sb hg ln (colNx h sb hg ln st e) e' = true then 0 else (colNx h sb hg ln st e).2.1 := rfl
  have e7 : colU1 h sb hg ln (colNx h sb hg ln st e) e' ≤ colU2 h sb hg ln (colNx h sb hg ln st e) e' := by
    unfold colU2
    split <;> omega
  unfold colV
  generalize colU2 h sb hg ln (colNx h sb hg ln st e) e' = u2' at *
  generalize colU1 h sb hg ln (colNx h sb hg ln st e) e' = u1' at *
  generalize colC1 h sb hg ln (colNx h sb hg ln st e) e' = c1' at *
  generalize colU2 h sb hg ln st e = u2 at *
  generalize colC1 h sb hg ln st e = c1 at *
  generalize hq : (u2 + ln e - 1) / h = q at *
  generalize hr : (u2 + ln e - 1) % h = r at *
  rw [e1] at e5
  rw [e2] at e6
  split at e5
  · omega
  · rename_i c
    rw [if_neg c] at e6
    by_cases c0 : q = 0
    · rw [c0] at e4 e5
      rw [Int.mul_zero] at e4
      omega
    · have : 0 ≤ r := by
        rw [← hr]
        exact Int.emod_nonneg _ (by omega)
      omega
theorem colE_facts (hE : okEn tx en) (hlc : ∀ e ∈ en, okLoc (enL e) (enM e)) (hg2 : okTg tx tg) (hh4 : 4 ≤ hh ∧ hh ≤ 40) (hw : 4 ≤ ww ∧ ww ≤ 40) (hk : k < (ordE tx en D o X).length) :
    (0 ≤ colE tx en D o hd tg hh ww X ((ordE tx en D o X).getD k 0) ∧ colE tx en D o hd tg hh ww X ((ordE tx en D o X).getD k 0) < 1000000) ∧
    (k + 1 < (ordE tx en D o X).length → colE tx en D o hd tg hh ww X ((ordE tx en D o X).getD k 0) < colE tx en D o hd tg hh ww X ((ordE tx en D o X).getD (k + 1) 0)) := by
  have hnd : (ordE tx en D o X).Nodup := ordL_nodup (okEn_pr hE X)
  have hln : ∀ e ∈ ordE tx en D o X, (1 ≤ lnX tg ww en e ∧ lnX tg ww en e ≤ 240) ∧ -1 ≤ hgE tx en D o hd e ∧ hgE tx en D o hd e < 1000 := fun e he => by
    have he2 := ordE_sub hE X he
    have h3 := hE.2.1 _ (enD_mem he2)
    have h4 := lenE_in (tx := tx) (e := en.getD e enD) hg2 h3.1 (hlc _ (enD_mem he2))
    have h5 := hdgE_in tx en D o hd e
    refine ⟨lnE_in hw h4, ?_⟩
    unfold hgE
    omega
  have hl24 := ordE_len (D := D) (o := o) hE X
  have hst := stK_ok (sb := sbE en) hh4 hln
  have hm : ∀ j, j < (ordE tx en D o X).length → (ordE tx en D o X).getD j 0 ∈ ordE tx en D o X := fun j hj => by
    rw [List.getD_eq_getElem?_getD, List.getElem?_eq_getElem hj]
    exact List.getElem_mem _
  have h0 := colU_in (sb := sbE en) (hg := hgE tx en D o hd) (ln := lnX tg ww en) hh4 (hst k (by omega)) ((ordE tx en D o X).getD k 0)
  unfold colE
  rw [col_at _ _ k hnd hk]
  refine ⟨?_, fun hk2 => ?_⟩
  · unfold colV
    omega
  · rw [col_at _ _ (k + 1) hnd hk2, stK_succ hk]
    exact col_lt hh4 (hst k (by omega)) (hln _ (hm k hk))
theorem dif_same (xs : List Int) : ∀ n, dif xs xs n = 0 := by
  intro n
  induction n with
  | zero => rfl
  | succ n ih =>
    unfold dif
    rw [if_pos rfl, ih]
end ORD
