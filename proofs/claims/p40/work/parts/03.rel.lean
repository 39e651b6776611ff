/-! The small machine's values, locals and cells as the machine has them. -/
def mad (n0 b mt a : Nat) : Nat := match a with
  | 0 => b
  | 1 => mt
  | a + 2 => n0 + a
def menc (ad : Nat → Nat) (v : mV) : Value := match v with
  | .inl x => .int (Int32.ofInt x)
  | .inr (.inl x) => .long (Int64.ofInt x)
  | .inr (.inr none) => .null
  | .inr (.inr (some a)) => .ref (ad a)
theorem menc_cat (ad : Nat → Nat) (v : mV) : (menc ad v).category = mcat v := by
  obtain x | x | (_ | a) := v <;> rfl
theorem menc_cat1 (ad : Nat → Nat) {v : mV} (h : mis1 v = true) : (menc ad v).category = 1 := by
  obtain x | x | (_ | a) := v <;> first | rfl | cases h
theorem menc_cats (ad : Nat → Nat) (l : List mV) : ((l.map (menc ad)).map fun v => v.category).sum = (l.map mcat).sum := by
  rw [List.map_map]
  congr 1
  exact List.map_congr_left fun v _ => menc_cat ad v
def mLR (ad : Nat → Nat) (L : mLs) (ls : Array Slot) : Prop := ls.size = L.length ∧ lv_wf ls ∧ ∀ (i : Nat) (v : mV), L[i]? = some (some v) → ls[i]? = some (.val (menc ad v))
def mlv (ad : Nat → Nat) (L : mLs) : List (Nat × Value) := (List.range L.length).filterMap fun i => match L[i]? with
  | some (some v) => some (i, menc ad v)
  | _ => none
theorem mlv_mem {ad : Nat → Nat} {L : mLs} {i : Nat} {v : mV} (h : L[i]? = some (some v)) : (i, menc ad v) ∈ mlv ad L := by
  refine List.mem_filterMap.mpr ⟨i, List.mem_range.mpr (List.getElem?_eq_some_iff.mp h).1, ?_⟩
  rw [h]
theorem mlv_of {ad : Nat → Nat} {L : mLs} {q : Nat × Value} (h : q ∈ mlv ad L) : ∃ v, L[q.1]? = some (some v) ∧ q.2 = menc ad v := by
  obtain ⟨i, -, hi⟩ := List.mem_filterMap.mp h
  split at hi
  · rename_i v hv
    cases hi
    exact ⟨v, hv, rfl⟩
  · cases hi
theorem mLR.has {ad : Nat → Nat} {L : mLs} {ls : Array Slot} (h : mLR ad L ls) : lv_has ls L.length (mlv ad L) := by
  refine ⟨h.1, h.2.1, fun q hq => ?_⟩
  obtain ⟨v, h1, h2⟩ := mlv_of hq
  rw [h2]
  exact h.2.2 _ _ h1
theorem mok_ne {i j : Nat} {L : mLs} {w : mV} (h : mok i L = true) (hj : j + 1 = i) (hw : L[j]? = some (some w)) : mcat w = 1 := by
  subst hj
  simp only [mok, hw] at h
  obtain x | x | a := w
  · rfl
  · cases h
  · rfl
theorem mLR.set1 {ad : Nat → Nat} {L : mLs} {ls ls' : Array Slot} {i : Nat} {v : mV} {x : Value} (h : mLR ad L ls) (hi : i < L.length) (hok : mok i L = true) (hx : menc ad v = x)
    (h' : lv_has ls' L.length ((i, x) :: (mlv ad L).filter (fun q => !(q.1 == i) && !(q.1 + 1 == i && q.2.category == 2)))) : mLR ad (L.set i (some v)) ls' := by
  refine ⟨by rw [List.length_set]; exact h'.1, h'.2.1, fun j w hw => ?_⟩
  by_cases hj : j = i
  · subst hj
    rw [List.getElem?_set_self hi] at hw
    cases hw
    rw [hx]
    exact h'.2.2 (j, x) List.mem_cons_self
  · rw [List.getElem?_set_ne (Ne.symm hj)] at hw
    refine h'.2.2 (j, menc ad w) (List.mem_cons_of_mem _ (List.mem_filter.mpr ⟨mlv_mem hw, ?_⟩))
    have h1 : (j == i) = false := by simpa using hj
    by_cases hk : j + 1 = i
    · have h2 : (menc ad w).category = 1 := by rw [menc_cat]; exact mok_ne hok hk hw
      simp [h1, h2]
    · have h3 : (j + 1 == i) = false := by simpa using hk
      simp [h1, h3]
theorem mLR.set2 {ad : Nat → Nat} {L : mLs} {ls ls' : Array Slot} {i : Nat} {v : mV} {x : Value} (h : mLR ad L ls) (hi : i + 1 < L.length) (hok : mok i L = true) (hx : menc ad v = x)
    (h' : lv_has ls' L.length ((i, x) :: (mlv ad L).filter (fun q => !(q.1 == i) && (!(q.1 == i + 1) && !(q.1 + 1 == i && q.2.category == 2))))) : mLR ad ((L.set i (some v)).set (i + 1) none) ls' := by
  refine ⟨by rw [List.length_set, List.length_set]; exact h'.1, h'.2.1, fun j w hw => ?_⟩
  by_cases hj1 : j = i + 1
  · subst hj1
    rw [List.getElem?_set_self (by rw [List.length_set]; exact hi)] at hw
    cases hw
  rw [List.getElem?_set_ne (Ne.symm hj1)] at hw
  by_cases hj : j = i
  · subst hj
    rw [List.getElem?_set_self (by omega)] at hw
    cases hw
    rw [hx]
    exact h'.2.2 (j, x) List.mem_cons_self
  · rw [List.getElem?_set_ne (Ne.symm hj)] at hw
    refine h'.2.2 (j, menc ad w) (List.mem_cons_of_mem _ (List.mem_filter.mpr ⟨mlv_mem hw, ?_⟩))
    have h1 : (j == i) = false := by simpa using hj
    have h0 : (j == i + 1) = false := by simpa using hj1
    by_cases hk : j + 1 = i
    · have h2 : (menc ad w).category = 1 := by rw [menc_cat]; exact mok_ne hok hk hw
      simp [h1, h0, h2]
    · have h3 : (j + 1 == i) = false := by simpa using hk
      simp [h1, h0, h3]
theorem mLR.drop {ad : Nat → Nat} {L : mLs} {ls ls' : Array Slot} {i : Nat} {x : Value} (h : mLR ad L ls) (hok : mok i L = true)
    (h' : lv_has ls' L.length ((i, x) :: (mlv ad L).filter (fun q => !(q.1 == i) && !(q.1 + 1 == i && q.2.category == 2)))) : mLR ad (L.set i none) ls' := by
  refine ⟨by rw [List.length_set]; exact h'.1, h'.2.1, fun j w hw => ?_⟩
  by_cases hj : j = i
  · subst hj
    rw [List.getElem?_set] at hw
    split at hw
    · split at hw <;> cases hw
    · rename_i hne
      exact absurd rfl hne
  · rw [List.getElem?_set_ne (Ne.symm hj)] at hw
    refine h'.2.2 (j, menc ad w) (List.mem_cons_of_mem _ (List.mem_filter.mpr ⟨mlv_mem hw, ?_⟩))
    have h1 : (j == i) = false := by simpa using hj
    by_cases hk : j + 1 = i
    · have h2 : (menc ad w).category = 1 := by rw [menc_cat]; exact mok_ne hok hk hw
      simp [h1, h2]
    · have h3 : (j + 1 == i) = false := by simpa using hk
      simp [h1, h3]
theorem mLR.entry {ad : Nat → Nat} {m : MethodId} {vs : List mV} {n : Nat} (h1 : ∀ v ∈ vs, mis1 v = true) (hn : vs.length ≤ n) :
    ∃ ls, entryFrame m (vs.map (menc ad)).toArray n = F0 m 0 ls [] ∧ mLR ad (mentry vs n) ls := by
  refine ⟨_, entry_eq m (vs.map (menc ad)) (fun v hv => ?_) n, ?_, ⟨fun i v hv hc => ?_, fun i hi => ?_⟩, fun i v hv => ?_⟩
  · obtain ⟨w, hw, rfl⟩ := List.mem_map.mp hv
    exact menc_cat1 ad (h1 w hw)
  · simp [mentry]
  · have hv' : ((vs.map (menc ad)).map Slot.val ++ List.replicate (n - (vs.map (menc ad)).length) Slot.unset)[i]? = some (.val v) := by simpa using hv
    by_cases hl : i < ((vs.map (menc ad)).map Slot.val).length
    · rw [List.getElem?_append_left hl] at hv'
      obtain ⟨w, hw, e⟩ := List.mem_map.mp (List.mem_of_getElem? hv')
      obtain ⟨u, hu, e2⟩ := List.mem_map.mp hw
      cases e
      rw [← e2, menc_cat1 ad (h1 u hu)] at hc
      cases hc
    · rw [List.getElem?_append_right (by omega)] at hv'
      have := List.eq_of_mem_replicate (List.mem_of_getElem? hv')
      cases this
  · have hv' : ((vs.map (menc ad)).map Slot.val ++ List.replicate (n - (vs.map (menc ad)).length) Slot.unset)[i]? = some .second := by simpa using hi
    rcases List.mem_append.mp (List.mem_of_getElem? hv') with q | q
    · obtain ⟨w, -, e⟩ := List.mem_map.mp q
      cases e
    · have := List.eq_of_mem_replicate q
      cases this
  · have hl : i < (vs.map some).length := by
      by_cases hl : i < (vs.map some).length
      · exact hl
      · unfold mentry at hv
        rw [List.getElem?_append_right (by omega)] at hv
        have := List.eq_of_mem_replicate (List.mem_of_getElem? hv)
        cases this
    unfold mentry at hv
    rw [List.getElem?_append_left hl] at hv
    have hv2 : vs[i]? = some v := by
      rw [List.getElem?_map] at hv
      cases h : vs[i]? with
      | none => rw [h] at hv; cases hv
      | some w => rw [h] at hv; cases hv; rfl
    show ((vs.map (menc ad)).map Slot.val ++ List.replicate (n - (vs.map (menc ad)).length) Slot.unset).toArray[i]? = _
    have hl2 : i < ((vs.map (menc ad)).map Slot.val).length := by simpa using hl
    simp only [List.getElem?_toArray]
    rw [List.getElem?_append_left hl2]
    simp [hv2]
