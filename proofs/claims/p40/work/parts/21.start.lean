/-! The law's start: what the Statement gives is what the simulation asks; the claim out of one run of the small machine. -/
section START
variable {p : Program} {l : Launch} {e : Env} {s : State} {m : MethodId} {below : List Frame} {meth : Method} {c : Code} {b L0 : Nat} {xs : Nat → Int32}
theorem mOK_in : ∀ (a : Nat) (q : vw_C), mcl[a]? = some q → Cond.instantiable q.1 q.2.2 ∈ mGd := by
  intro a q h
  have ha : a < 11 := (List.getElem?_eq_some_iff.mp h).1
  rcases (show a = 0 ∨ a = 1 ∨ a = 2 ∨ a = 3 ∨ a = 4 ∨ a = 5 ∨ a = 6 ∨ a = 7 ∨ a = 8 ∨ a = 9 ∨ a = 10 by omega) with rfl | rfl | rfl | rfl | rfl | rfl | rfl | rfl | rfl | rfl | rfl
  · cases h; exact gw_171
  · cases h; exact gw_29
  · cases h; exact gw_138
  · cases h; exact gw_177
  · cases h; exact gw_265
  · cases h; exact gw_228
  · cases h; exact gw_245
  · cases h; exact gw_156
  · cases h; exact gw_46
  · cases h; exact gw_64
  · cases h; exact gw_21
theorem mStart_cl {args : Array Value} (hts : ∀ w ∈ mGd, w.before args s = true) : ∃ (dC : Nat → ClassId) (dI : Nat → Nat → Nat), ∀ (k : Nat) (q : vw_C), mcl[k]? = some q → u_Kn s q.1 q.2.1 q.2.2 (dC k) (dI k) := by
  have h0 : ∀ k : Nat, ∃ d : ClassId × (Nat → Nat), ∀ q : vw_C, mcl[k]? = some q → u_Kn s q.1 q.2.1 q.2.2 d.1 d.2 := by
    intro k
    cases hk : mcl[k]? with
    | none => exact ⟨(0, fun _ => 0), fun q hq => by cases hq⟩
    | some q =>
      obtain ⟨c0, i0, hKn⟩ := u_known (C := q.1) (T := q.2.1) (N := q.2.2) (n := q.2.2) hts (mOK_cl k q hk).1 (hts _ (mOK_in k q hk))
      exact ⟨(c0, i0), fun q' hq => by cases hq; exact hKn⟩
  obtain ⟨d, hd⟩ := Classical.axiomOfChoice h0
  exact ⟨fun k => (d k).1, fun k => (d k).2, hd⟩
theorem mStart_ar {args : Array Value} (hts : ∀ w ∈ lw_tbl, w.before args s = true) : ∃ cA : Nat → ClassId, ∀ k, k < 7 → ArrOfT s (cA k) (mky k) ∧ va_RA s (cA k) (mky k) := by
  have hp : ∀ ty : FieldType, (Cond.arrayClass ty).before args s = true → (∀ n, ty ≠ .object n) → ∃ cA, ArrOfT s cA ty ∧ va_RA s cA ty := by
    intro ty h hno
    obtain ⟨cA, kA, comp, h1, h2, h3⟩ := Cond.arrayClass_spec h
    refine ⟨cA, fun n z => ⟨(fun k h => by cases h), kA, h2, comp, h3⟩, ?_⟩
    cases ty <;> first | exact h1 | exact absurd rfl (hno _)
  have ho : ∀ C : String, (Cond.arrayOver (.object C)).before args s = true → ∃ cA, ArrOfT s cA (.object C) ∧ va_RA s cA (.object C) := by
    intro C h
    obtain ⟨comp, cA, kA, h1, h2, h3, h4, h5⟩ := Cond.arrayOver_spec h
    exact ⟨cA, fun n z => ⟨(fun k h => by cases h), kA, h3, comp, h4⟩, kA, comp, h3, h4, h1, h5⟩
  have h0 : ∀ k : Nat, ∃ cA : ClassId, k < 7 → ArrOfT s cA (mky k) ∧ va_RA s cA (mky k) := by
    intro k
    by_cases hk : k < 7
    · rcases (show k = 0 ∨ k = 1 ∨ k = 2 ∨ k = 3 ∨ k = 4 ∨ k = 5 ∨ k = 6 by omega) with rfl | rfl | rfl | rfl | rfl | rfl | rfl
      · obtain ⟨cA, h⟩ := hp .int (hts _ (ll_1 (List.mem_of_getElem? (i := 44) rfl))) (fun n h => by cases h)
        exact ⟨cA, fun _ => h⟩
      · obtain ⟨cA, h⟩ := hp .boolean (hts _ (ll_1 (List.mem_of_getElem? (i := 132) rfl))) (fun n h => by cases h)
        exact ⟨cA, fun _ => h⟩
      · obtain ⟨cA, h⟩ := hp .byte (hts _ (ll_2 (List.mem_of_getElem? (i := 201) rfl))) (fun n h => by cases h)
        exact ⟨cA, fun _ => h⟩
      · obtain ⟨cA, h⟩ := ho "Collationer$Row" (hts _ (ll_1 (List.mem_of_getElem? (i := 61) rfl)))
        exact ⟨cA, fun _ => h⟩
      · obtain ⟨cA, h⟩ := ho "Collationer$Tailoring" (hts _ (ll_1 (List.mem_of_getElem? (i := 63) rfl)))
        exact ⟨cA, fun _ => h⟩
      · obtain ⟨cA, h⟩ := ho "Collationer$Entry" (hts _ (ll_1 (List.mem_of_getElem? (i := 134) rfl)))
        exact ⟨cA, fun _ => h⟩
      · obtain ⟨cA, h⟩ := ho "Collationer$Index" (hts _ (ll_1 (List.mem_of_getElem? (i := 136) rfl)))
        exact ⟨cA, fun _ => h⟩
    · exact ⟨0, fun h => absurd h hk⟩
  obtain ⟨cA, hcA⟩ := Classical.axiomOfChoice h0
  exact ⟨cA, hcA⟩
theorem mStr_1 : ∀ q ∈ mstrs, Cond.stringRef q.1 q.2.1 q.2.2 ∈ lw_tbl := by decide +kernel
theorem mStr_2 : ∀ q ∈ mstrs, Cond.exactly (.string q.1 q.2.1) "java/lang/String" ∈ flatC (Jvm.Cond.and given_1 narrow_1) := by decide +kernel
theorem mNw_1 : ∀ w ∈ mnw, w ∈ lw_tbl := by decide +kernel
theorem mStart {args : Array Value} (hts : ∀ w ∈ lw_tbl, w.before args s = true) (hgv : (Jvm.Cond.and given_1 narrow_1).before args s = true) (hX : va_X b L0 xs s s.heap) (hbl : b < s.heap.size) (hL : L0 < 2 ^ 31) :
    ∃ (D : va_G) (mt : Nat) (cA : Nat → ClassId), mSt D mcl s.heap.size b mt cA L0 xs mstrs mnw s s.heap := by
  have hs := flat_of_before _ hgv
  have htg : ∀ w ∈ mGd, w.before args s = true := fun w hw => hts w (List.mem_filter.mp hw).1
  have hA : ∀ a : Nat, a < s.heap.size → ¬ s.heap.size ≤ a := fun a h => by omega
  obtain ⟨dC, dI, hK⟩ := mStart_cl (s := s) (args := args) htg
  obtain ⟨cA, hcA⟩ := mStart_ar (s := s) (args := args) hts
  obtain ⟨t, ht, hT⟩ := va_Tof (tm := .static "Collationer" "MARK_CLASSES" "[I") (ty := .int) (N := 4) (f := fun j => .int (Int32.ofInt (([1, 1, 2, 3] : List Int).getD j 0))) (A := fun q => s.heap.size ≤ q) (args := args) (by decide) (hs _ (by decide +kernel))
    (va_eqt (z := 4) (hs _ (by decide +kernel))) (fun j hj => by
      rcases (show j = 0 ∨ j = 1 ∨ j = 2 ∨ j = 3 by omega) with rfl | rfl | rfl | rfl
      · exact va_eqt (z := 1) (hs (Cond.eq (.elem (.static "Collationer" "MARK_CLASSES" "[I") (.int 0)) (.int 1)) (by decide +kernel))
      · exact va_eqt (z := 1) (hs (Cond.eq (.elem (.static "Collationer" "MARK_CLASSES" "[I") (.int 1)) (.int 1)) (by decide +kernel))
      · exact va_eqt (z := 2) (hs (Cond.eq (.elem (.static "Collationer" "MARK_CLASSES" "[I") (.int 2)) (.int 2)) (by decide +kernel))
      · exact va_eqt (z := 3) (hs (Cond.eq (.elem (.static "Collationer" "MARK_CLASSES" "[I") (.int 3)) (.int 3)) (by decide +kernel))) hA
  have hZ := va_Zref (C := "Collationer") (n := "MARK_CLASSES") (d := "[I") (A := fun q => s.heap.size ≤ q) (args := args) (hts _ (ll_3 (List.mem_of_getElem? (i := 103) rfl))) (hts _ (ll_1 (List.mem_of_getElem? (i := 1) rfl))) ht hA
  have hU : vx_Zq Bundle.tN "UNASSIGNED_STACK" Bundle.steD (fun q => s.heap.size ≤ q) s s.heap := vx_Zqof (args := args) (hts _ (ll_2 (List.mem_of_getElem? (i := 161) rfl))) (hts _ (ll_1 (List.mem_of_getElem? (i := 13) rfl))) (hs _ (by decide +kernel)) hA
  have hN : vx_Zq Bundle.tN "SUPPRESSED_SENTINEL" Bundle.listD (fun q => s.heap.size ≤ q) s s.heap := vx_Zqof (args := args) (hts _ (ll_2 (List.mem_of_getElem? (i := 163) rfl))) (hts _ (ll_1 (List.mem_of_getElem? (i := 13) rfl))) (hs _ (by decide +kernel)) hA
  refine ⟨(dC, dI), t, cA, ⟨hK, fun k q hq => ?_⟩, hX, hZ, hT, hU, hN, hbl, Nat.le_refl _, hL, fun q hq => ?_, fun w hw => ?_, fun k k1 k2 C hC => ?_, fun i hi => ?_, fun i j hi hj hij => ?_⟩
  · have hk : k < 7 := by have := (List.getElem?_eq_some_iff.mp hq).1; simpa [mty] using this
    rw [mty_get hk] at hq
    cases hq
    exact hcA k hk
  · obtain ⟨a, -, -, -, h1, -⟩ := Cond.exactly_spec (hs _ (mStr_2 q hq))
    exact ⟨a, vk_R.of (hts _ (mStr_1 q hq)) h1⟩
  · exact va_Nw.of (mOK_nw w hw).tab (hts _ (mNw_1 _ hw))
  · rcases (show k = 3 ∨ k = 4 ∨ k = 5 ∨ k = 6 by omega) with rfl | rfl | rfl | rfl
    · cases hC; exact va_AO.of (hts _ (ll_1 (List.mem_of_getElem? (i := 61) rfl)))
    · cases hC; exact va_AO.of (hts _ (ll_1 (List.mem_of_getElem? (i := 63) rfl)))
    · cases hC; exact va_AO.of (hts _ (ll_1 (List.mem_of_getElem? (i := 134) rfl)))
    · cases hC; exact va_AO.of (hts _ (ll_1 (List.mem_of_getElem? (i := 136) rfl)))
  · rcases (show i = 0 ∨ i = 1 ∨ i = 2 by omega) with rfl | rfl | rfl
    · exact va_Nw.of rfl (hts _ (ll_2 (List.mem_of_getElem? (i := 136) rfl)))
    · exact va_Nw.of rfl (hts _ (ll_4 (List.mem_of_getElem? (i := 7) rfl)))
    · exact va_Nw.of rfl (hts _ (ll_3 (List.mem_of_getElem? (i := 219) rfl)))
  · rcases (show i = 0 ∨ i = 1 ∨ i = 2 by omega) with rfl | rfl | rfl <;> rcases (show j = 0 ∨ j = 1 ∨ j = 2 by omega) with rfl | rfl | rfl <;> first
      | exact absurd rfl hij
      | exact va_Nc.of (hs _ (by decide +kernel))
/-- the heap at the law's start -/
def mh0 (L0 : Nat) (xs : Nat → Int32) : mH := ([(0, L0), (0, 4)], fun a i => if a = 0 then (xs i).toInt else if a = 1 then ([1, 1, 2, 3] : List Int).getD i 0 else 0, true)
theorem mh0_I : mI0 L0 xs (mh0 L0 xs) := ⟨rfl, rfl, fun i _ => Int32.ofInt_toInt _, fun i _ => rfl⟩
theorem mForget {o : Outcome} {t : State} {Lq : List Loc} {k n k' n' : Nat} (h : FrameEnd s o t Lq k n) (hL : ∀ q ∈ Lq, s.heap.size ≤ q.base) (hk : k ≤ k') (hn : n ≤ n') : Framed s o t [] k' n' := by
  obtain ⟨h1, h2, h3⟩ := h
  obtain ⟨e1, e2, e3, e4, e5, e6⟩ := h3
  refine ⟨h1, h2, e1, e2, Nat.le_trans e3 (by omega), e4, Nat.le_trans e5 hn, fun a c hc => ?_⟩
  obtain ⟨c', g1, g2, g3, g4⟩ := e6 a c hc
  refine ⟨c', g1, g2, g3, fun i _ => g4 i fun hm => ?_⟩
  have ha : a < s.heap.size := (Array.getElem?_eq_some_iff.mp hc).1
  have h9 : s.heap.size ≤ a := hL _ hm
  exact absurd ha (Nat.not_lt.mpr h9)
end START
