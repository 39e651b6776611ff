/-! The small machine's heap as the machine has it. -/
/-- what an array holds, by its kind -/
def mky (k : Nat) : FieldType := match k with
  | 0 => .int
  | 1 => .boolean
  | 2 => .byte
  | 3 => .object "Collationer$Row"
  | 4 => .object "Collationer$Tailoring"
  | 5 => .object "Collationer$Entry"
  | _ => .object "Collationer$Index"
def mty (cA : Nat → ClassId) : List (ClassId × FieldType) := (List.range 7).map fun k => (cA k, mky k)
theorem mty_get {cA : Nat → ClassId} {k : Nat} (h : k < 7) : (mty cA)[k]? = some (cA k, mky k) := by
  simp [mty, h]
/-- a reference in a cell: negative is null -/
def mro (ad : Nat → Nat) (x : Int) : Option Nat := if x < 0 then none else some (ad x.toNat)
def mfv (ad : Nat → Nat) (t : Nat) (x : Int) : Value := if t = 1 then va_rf (mro ad x) else .int (Int32.ofInt x)
def mcell (ad : Nat → Nat) (cA : Nat → ClassId) (ft : Nat → Nat → Nat) (kd n : Nat) (f : Nat → Int) : va_E :=
  if kd < 2 then .inl (cA kd, n, .inl fun i => Int32.ofInt (f i))
  else if kd = 2 then .inl (cA 2, n, .inr (.inl fun i => Int64.ofInt (f i)))
  else if kd < 16 then .inl (cA kd, n, .inr (.inr (.inr (.inr fun i => mro ad (f i)))))
  else .inr (kd - 16, (List.range n).map fun j => mfv ad (ft (kd - 16) j) (f j))
theorem mcell_i {ad : Nat → Nat} {cA : Nat → ClassId} {ft : Nat → Nat → Nat} {kd n : Nat} {f : Nat → Int} (h : kd < 2) : mcell ad cA ft kd n f = .inl (cA kd, n, .inl fun i => Int32.ofInt (f i)) := by
  unfold mcell; rw [if_pos h]
theorem mcell_l {ad : Nat → Nat} {cA : Nat → ClassId} {ft : Nat → Nat → Nat} {n : Nat} {f : Nat → Int} : mcell ad cA ft 2 n f = .inl (cA 2, n, .inr (.inl fun i => Int64.ofInt (f i))) := by
  unfold mcell; rw [if_neg (by omega), if_pos rfl]
theorem mcell_q {ad : Nat → Nat} {cA : Nat → ClassId} {ft : Nat → Nat → Nat} {kd n : Nat} {f : Nat → Int} (h : 2 < kd) (h2 : kd < 16) : mcell ad cA ft kd n f = .inl (cA kd, n, .inr (.inr (.inr (.inr fun i => mro ad (f i))))) := by
  unfold mcell; rw [if_neg (by omega), if_neg (by omega), if_pos h2]
theorem mcell_o {ad : Nat → Nat} {cA : Nat → ClassId} {ft : Nat → Nat → Nat} {c n : Nat} {f : Nat → Int} : mcell ad cA ft (16 + c) n f = .inr (c, (List.range n).map fun j => mfv ad (ft c j) (f j)) := by
  unfold mcell; rw [if_neg (by omega), if_neg (by omega), if_neg (by omega), Nat.add_sub_cancel_left]
def mws (n0 : Nat) (ad : Nat → Nat) (cA : Nat → ClassId) (ft : Nat → Nat → Nat) (h : mH) : va_W :=
  (List.range (h.1.length - 2)).map fun i => (n0 + i, mcell ad cA ft (h.1.getD (i + 2) (0, 0)).1 (h.1.getD (i + 2) (0, 0)).2 (h.2.1 (i + 2)))
theorem mws_get {n0 : Nat} {ad : Nat → Nat} {cA : Nat → ClassId} {ft : Nat → Nat → Nat} {h : mH} {a kd n : Nat} (ha : 2 ≤ a) (hk : h.1[a]? = some (kd, n)) : (mws n0 ad cA ft h)[a - 2]? = some (n0 + (a - 2), mcell ad cA ft kd n (h.2.1 a)) := by
  have hl : a < h.1.length := (List.getElem?_eq_some_iff.mp hk).1
  unfold mws
  rw [List.getElem?_map, List.getElem?_range (by omega)]
  simp only [Option.map_some, List.getD_eq_getElem?_getD]
  rw [show a - 2 + 2 = a by omega, hk]
  rfl
theorem mws_len {n0 : Nat} {ad : Nat → Nat} {cA : Nat → ClassId} {ft : Nat → Nat → Nat} {h : mH} : (mws n0 ad cA ft h).length = h.1.length - 2 := by
  simp [mws]
theorem mup_at {hp : Nat → Nat → Int} {a i : Nat} {x : Int} : mup hp a i x a = fun j => if j = i then x else hp a j := by
  funext j; simp [mup]
theorem mup_ne {hp : Nat → Nat → Int} {a b i : Nat} {x : Int} (h : b ≠ a) : mup hp a i x b = hp b := by
  funext j; simp [mup, h]
/-- an element is written -/
theorem mws_set {n0 : Nat} {ad : Nat → Nat} {cA : Nat → ClassId} {ft : Nat → Nat → Nat} {h : mH} {a kd n i : Nat} {x : Int} (ha : 2 ≤ a) (hk : h.1[a]? = some (kd, n)) {e : va_E} (he : mcell ad cA ft kd n (fun j => if j = i then x else h.2.1 a j) = e) : mws n0 ad cA ft (h.1, mup h.2.1 a i x, h.2.2) = (mws n0 ad cA ft h).set (a - 2) (n0 + (a - 2), e) := by
  have hl : a < h.1.length := (List.getElem?_eq_some_iff.mp hk).1
  refine List.ext_getElem? fun k => ?_
  by_cases hka : k = a - 2
  · subst hka
    rw [List.getElem?_set_self (by rw [mws_len]; omega), mws_get (h := (h.1, mup h.2.1 a i x, h.2.2)) ha hk, ← he]
    show some (n0 + (a - 2), mcell ad cA ft kd n (mup h.2.1 a i x a)) = _
    rw [mup_at]
  · rw [List.getElem?_set_ne (Ne.symm hka)]
    unfold mws
    rw [List.getElem?_map, List.getElem?_map]
    by_cases hk2 : k < h.1.length - 2
    · rw [List.getElem?_range hk2]
      simp only [Option.map_some]
      rw [mup_ne (show k + 2 ≠ a by omega)]
    · rw [List.getElem?_eq_none (by simp; omega)]
      rfl
/-- a cell is made -/
theorem mws_new {n0 : Nat} {ad : Nat → Nat} {cA : Nat → ClassId} {ft : Nat → Nat → Nat} {h : mH} {kd n : Nat} {d : Nat → Int} {e : va_E} (hl : 2 ≤ h.1.length) (he : mcell ad cA ft kd n d = e) :
    mws n0 ad cA ft (h.1 ++ [(kd, n)], (fun b j => if b = h.1.length then d j else h.2.1 b j), true) = mws n0 ad cA ft h ++ [(n0 + (h.1.length - 2), e)] := by
  refine List.ext_getElem? fun k => ?_
  by_cases hk : k < h.1.length - 2
  · rw [List.getElem?_append_left (by rw [mws_len]; exact hk)]
    have h1 : h.1[k + 2]? = some (h.1[k + 2]'(by omega)) := List.getElem?_eq_getElem (by omega)
    have h2 := mws_get (n0 := n0) (ad := ad) (cA := cA) (ft := ft) (h := h) (a := k + 2) (by omega) h1
    rw [show k + 2 - 2 = k by omega] at h2
    rw [h2]
    have h3 : (h.1 ++ [(kd, n)])[k + 2]? = some (h.1[k + 2]'(by omega)) := by rw [List.getElem?_append_left (by omega)]; exact h1
    have h4 := mws_get (n0 := n0) (ad := ad) (cA := cA) (ft := ft) (h := (h.1 ++ [(kd, n)], (fun b j => if b = h.1.length then d j else h.2.1 b j), true)) (a := k + 2) (by omega) h3
    rw [show k + 2 - 2 = k by omega] at h4
    rw [h4]
    have : k + 2 ≠ h.1.length := by omega
    simp [this]
  · rw [List.getElem?_append_right (by rw [mws_len]; omega), mws_len]
    by_cases hk2 : k = h.1.length - 2
    · subst hk2
      rw [Nat.sub_self]
      have h3 : (h.1 ++ [(kd, n)])[h.1.length]? = some (kd, n) := by simp
      have h4 := mws_get (n0 := n0) (ad := ad) (cA := cA) (ft := ft) (h := (h.1 ++ [(kd, n)], (fun b j => if b = h.1.length then d j else h.2.1 b j), true)) (a := h.1.length) hl h3
      rw [h4, ← he]
      simp
    · rw [List.getElem?_eq_none (by rw [mws_len]; simp; omega), List.getElem?_eq_none (by simp; omega)]
theorem mfv_set {ad : Nat → Nat} {ft : Nat → Nat} {n i : Nat} {f : Nat → Int} {x : Int} : ((List.range n).map fun j => mfv ad (ft j) (if j = i then x else f j)) = ((List.range n).map fun j => mfv ad (ft j) (f j)).set i (mfv ad (ft i) x) := by
  refine List.ext_getElem? fun k => ?_
  by_cases hk : k = i
  · subst hk
    by_cases hn : k < n
    · rw [List.getElem?_set_self (by simpa using hn), List.getElem?_map, List.getElem?_range hn]
      simp
    · rw [List.getElem?_eq_none (by simp; omega), List.getElem?_eq_none (by simp; omega)]
  · rw [List.getElem?_set_ne (Ne.symm hk), List.getElem?_map, List.getElem?_map]
    by_cases hn : k < n
    · rw [List.getElem?_range hn]
      simp [hk]
    · rw [List.getElem?_eq_none (by simp; omega)]
      rfl
/-- the machine's heap holds the small one's -/
def mRel (D : va_G) (cl : List vw_C) (n0 : Nat) (ad : Nat → Nat) (cA : Nat → ClassId) (ft : Nat → Nat → Nat) (h : mH) (H : Heap) : Prop :=
  va_P D cl (mws n0 ad cA ft h) H ∧ va_D (fun q => n0 ≤ q) (mws n0 ad cA ft h)
/-- the script and the marks' classes, which nobody writes -/
def mI0 (L0 : Nat) (xs : Nat → Int32) (h : mH) : Prop := h.1[0]? = some (0, L0) ∧ h.1[1]? = some (0, 4) ∧ (∀ i, i < L0 → Int32.ofInt (h.2.1 0 i) = xs i) ∧ ∀ i, i < 4 → h.2.1 1 i = ([1, 1, 2, 3] : List Int).getD i 0
theorem mI0.up {L0 : Nat} {xs : Nat → Int32} {h : mH} (hI : mI0 L0 xs h) {a i : Nat} {x : Int} (ha : 2 ≤ a) : mI0 L0 xs (h.1, mup h.2.1 a i x, h.2.2) := by
  obtain ⟨h1, h2, h3, h4⟩ := hI
  refine ⟨h1, h2, fun j hj => ?_, fun j hj => ?_⟩
  · have : (0 : Nat) ≠ a := by omega
    simpa [mup, this] using h3 j hj
  · have : (1 : Nat) ≠ a := by omega
    simpa [mup, this] using h4 j hj
theorem mI0.new {L0 : Nat} {xs : Nat → Int32} {h : mH} (hI : mI0 L0 xs h) {kd n : Nat} {d : Nat → Int} : mI0 L0 xs (h.1 ++ [(kd, n)], (fun b j => if b = h.1.length then d j else h.2.1 b j), true) := by
  obtain ⟨h1, h2, h3, h4⟩ := hI
  have hl : 1 < h.1.length := (List.getElem?_eq_some_iff.mp h2).1
  refine ⟨by rw [List.getElem?_append_left (by omega)]; exact h1, by rw [List.getElem?_append_left hl]; exact h2, fun j hj => ?_, fun j hj => ?_⟩
  · have : (0 : Nat) ≠ h.1.length := by omega
    simpa [this] using h3 j hj
  · have : (1 : Nat) ≠ h.1.length := by omega
    simpa [this] using h4 j hj
theorem mI0.len {L0 : Nat} {xs : Nat → Int32} {h : mH} (hI : mI0 L0 xs h) : 2 ≤ h.1.length := (List.getElem?_eq_some_iff.mp hI.2.1).1
/-- words that aren't good, but stay -/
def mNwOk (w : Cond) : Prop := (∃ a i x h, w = .methodLinkNest a i x h) ∨ ∃ x, w = .declares x
theorem mNwOk.tab {w : Cond} (h : mNwOk w) : w.onTables = true := by
  rcases h with ⟨a, i, x, h, rfl⟩ | ⟨x, rfl⟩ <;> rfl
/-- the exceptions' classes -/
def pE (i : Nat) : String := match i with
  | 0 => "java/lang/IndexOutOfBoundsException"
  | 1 => "java/lang/IllegalArgumentException"
  | _ => "java/lang/IllegalStateException"
/-- what of the machine stands still: the tables, the script, the statics -/
def mSt (D : va_G) (cl : List vw_C) (n0 b mt : Nat) (cA : Nat → ClassId) (L0 : Nat) (xs : Nat → Int32) (strs : List (String × Nat × String)) (nw : List Cond) (U : State) (H : Heap) : Prop :=
  va_K D cl (mty cA) U ∧ va_X b L0 xs U H ∧ va_Z "Collationer" "MARK_CLASSES" "[I" (.ref mt) (fun q => n0 ≤ q) U H ∧ va_T .int mt 4 (fun j => .int (Int32.ofInt (([1, 1, 2, 3] : List Int).getD j 0))) (fun q => n0 ≤ q) U H ∧
  vx_Zq Bundle.tN "UNASSIGNED_STACK" Bundle.steD (fun q => n0 ≤ q) U H ∧ vx_Zq Bundle.tN "SUPPRESSED_SENTINEL" Bundle.listD (fun q => n0 ≤ q) U H ∧ b < n0 ∧ n0 ≤ H.size ∧ L0 < 2 ^ 31 ∧
  (∀ q ∈ strs, ∃ sa, vk_R q.1 q.2.1 q.2.2 sa U) ∧ (∀ w ∈ nw, va_Nw w U) ∧ (∀ k, 2 < k → k < 7 → ∀ C, mky k = .object C → va_AO C U) ∧ (∀ i, i < 3 → va_Nw (.castable (pE i) (pE i)) U) ∧ ∀ i j, i < 3 → j < 3 → i ≠ j → va_Nc (pE i) (pE j) U
