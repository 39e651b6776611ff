/-! One step of the small machine is one of the machine's. -/
def mK (p : Program) (l : Launch) (e : Env) (R : Room) (s : State) (m : MethodId) (args : Array Value) (below : List Frame) (meth : Method) (c : Code) (Q : State → Prop)
    (D : va_G) (cl : List vw_C) (n0 b mt : Nat) (cA : Nat → ClassId) (ft : Nat → Nat → Nat) (L0 : Nat) (xs : Nat → Int32) (pc : Nat) (L : mLs) (st : List mV) (h : mH) (cells slots : Nat) : Prop :=
  ∀ (ls : Array Slot) (H : Heap) (locs : List Loc), mLR (mad n0 b mt) L ls → mI0 L0 xs h → mRel D cl n0 (mad n0 b mt) cA ft h H → va_S (fun q => n0 ≤ q) s.heap H locs → (h.2.2 = true → s.heap.size + cells = n0 + (h.1.length - 2)) →
    W p l e R s m args below meth c H locs cells slots Q (F0 m pc ls (st.map (menc (mad n0 b mt))))
/-- a class of the world: its words are there, its fields' types -/
def mCl (good : List Cond) (cl : List vw_C) (ft : Nat → Nat → Nat) : Prop := ∀ (a : Nat) (q : vw_C), cl[a]? = some q → (∀ w ∈ u_ws q.1 q.2.1 q.2.2, w ∈ good) ∧ (∀ i, i < q.2.2 → ∀ j, j < q.2.2 → i ≠ j → (q.2.1 i).2.1 ≠ (q.2.1 j).2.1) ∧
  ∃ ty : Nat → FieldType, ∀ k, k < q.2.2 → parseFieldDescriptor (q.2.1 k).2.2.1 = some (ty k) ∧ ((ft a k = 1 ∧ ((∃ n, ty k = .object n) ∨ ∃ t, ty k = .array t)) ∨ (ft a k = 0 ∧ ty k = .int) ∨ (ft a k = 2 ∧ ty k = .boolean))
/-- what holds in a frame -/
def mFr (p : Program) (s : State) (m : MethodId) (args : Array Value) (meth : Method) (c : Code) (cc : ByteArray) (own : String) (ini : Bool) (good : List Cond) (D : va_G) (cl : List vw_C) (n0 b mt : Nat) (cA : Nat → ClassId) (ft : Nat → Nat → Nat) (L0 : Nat) (xs : Nat → Int32) (strs : List (String × Nat × String)) (nw : List Cond) : Prop :=
  p.tables.exec = Jvm.exec ∧ c.code = cc ∧ s.vm.findClass own = some m.cls ∧ (∀ w ∈ good, w.before args s = true) ∧ (ini = true → meth.name = "<init>") ∧ mCl good cl ft ∧ mSt D cl n0 b mt cA L0 xs strs nw s s.heap
section MS
variable {p : Program} {l : Launch} {e : Env} {R : Room} {s : State} {m : MethodId} {args : Array Value} {below : List Frame} {meth : Method} {c : Code} {Q : State → Prop}
variable {cc : ByteArray} {own : String} {ini : Bool} {good : List Cond} {D : va_G} {cl : List vw_C} {n0 b mt : Nat} {cA : Nat → ClassId} {ft : Nat → Nat → Nat} {L0 : Nat} {xs : Nat → Int32} {strs : List (String × Nat × String)} {nw : List Cond}
variable {pc pc' : Nat} {L L' : mLs} {st st' : List mV} {h h' : mH} {cells slots dc ds : Nat} {fd : Nat → Nat → Int} {nf : Nat → Nat}
theorem mi32 (x : Int) : Int32.ofInt (Int32.ofInt x).toInt = Int32.ofInt x := Int32.ofInt_toInt _
theorem mad_ge {a : Nat} (ha : 2 ≤ a) : mad n0 b mt a = n0 + (a - 2) := by
  match a, ha with
  | a + 2, _ => rfl
/-- what is pushed or popped alone -/
theorem mF_loads {k : Fin 4} {a b' c' : Nat} (F : mFr p s m args meth c cc own ini good D cl n0 b mt cA ft L0 xs strs nw) (i : Instr) (hi : i = .aload_n k ∨ i = .iload_n k ∨ i = .lload_n k) (hd : decode cc pc = .ok (i, 1))
    (hs : mstep fd nf (i, 1, a, b', c') pc L st h = some (.inl (pc', L', st', h', dc, ds)))
    (kk : mK p l e R s m args below meth c Q D cl n0 b mt cA ft L0 xs pc' L' st' h' (cells + dc) (slots + ds)) : mK p l e R s m args below meth c Q D cl n0 b mt cA ft L0 xs pc L st h cells slots := by
  obtain ⟨hx, hb, hown, hts, -, -, hSt⟩ := F
  intro ls H locs hL hI hR hS hz
  rcases hi with rfl | rfl | rfl
  · simp only [mstep, mcp] at hs
    split at hs
    · rename_i q hq
      cases hs
      exact lv_aload_n hx hb hd rfl (hL.2.2 _ _ hq) (kk ls H locs hL hI hR hS hz)
    · cases hs
  · simp only [mstep, mci] at hs
    split at hs
    · rename_i q hq
      cases hs
      exact lv_iload_n hx hb hd rfl (hL.2.2 _ _ hq) (kk ls H locs hL hI hR hS hz)
    · cases hs
  · simp only [mstep, mcj] at hs
    split at hs
    · rename_i q hq
      cases hs
      exact lv_lload_n hx hb hd rfl (hL.2.2 _ _ hq) (kk ls H locs hL hI hR hS hz)
    · cases hs
theorem mF_loads2 {k : Nat} {a b' c' : Nat} (F : mFr p s m args meth c cc own ini good D cl n0 b mt cA ft L0 xs strs nw) (i : Instr) (hi : i = .aload k ∨ i = .iload k ∨ i = .lload k) (hd : decode cc pc = .ok (i, 2))
    (hs : mstep fd nf (i, 2, a, b', c') pc L st h = some (.inl (pc', L', st', h', dc, ds)))
    (kk : mK p l e R s m args below meth c Q D cl n0 b mt cA ft L0 xs pc' L' st' h' (cells + dc) (slots + ds)) : mK p l e R s m args below meth c Q D cl n0 b mt cA ft L0 xs pc L st h cells slots := by
  obtain ⟨hx, hb, hown, hts, -, -, hSt⟩ := F
  intro ls H locs hL hI hR hS hz
  rcases hi with rfl | rfl | rfl
  · simp only [mstep, mcp] at hs
    split at hs
    · rename_i q hq
      cases hs
      exact lv_aload hx hb hd (hL.2.2 _ _ hq) (kk ls H locs hL hI hR hS hz)
    · cases hs
  · simp only [mstep, mci] at hs
    split at hs
    · rename_i q hq
      cases hs
      exact lv_iload hx hb hd (hL.2.2 _ _ hq) (kk ls H locs hL hI hR hS hz)
    · cases hs
  · simp only [mstep, mcj] at hs
    split at hs
    · rename_i q hq
      cases hs
      exact lv_lload hx hb hd (hL.2.2 _ _ hq) (kk ls H locs hL hI hR hS hz)
    · cases hs
theorem mF_consts {a b' c' n : Nat} (F : mFr p s m args meth c cc own ini good D cl n0 b mt cA ft L0 xs strs nw) (i : Instr) (hi : (∃ x, i = .iconst x ∧ n = 1) ∨ (∃ x, i = .bipush x ∧ n = 2) ∨ (∃ x, i = .sipush x ∧ n = 3) ∨ (∃ x, i = .lconst x ∧ n = 1) ∨ (∃ x, i = .ldc x ∧ n = 2 ∧ Cond.constant own x (Int32.ofInt a) ∈ good) ∨ (∃ x, i = .ldc_w x ∧ n = 3 ∧ Cond.constant own x (Int32.ofInt a) ∈ good)) (hd : decode cc pc = .ok (i, n))
    (hs : mstep fd nf (i, n, a, b', c') pc L st h = some (.inl (pc', L', st', h', dc, ds)))
    (kk : mK p l e R s m args below meth c Q D cl n0 b mt cA ft L0 xs pc' L' st' h' (cells + dc) (slots + ds)) : mK p l e R s m args below meth c Q D cl n0 b mt cA ft L0 xs pc L st h cells slots := by
  obtain ⟨hx, hb, hown, hts, -, -, hSt⟩ := F
  intro ls H locs hL hI hR hS hz
  rcases hi with ⟨x, rfl, rfl⟩ | ⟨x, rfl, rfl⟩ | ⟨x, rfl, rfl⟩ | ⟨x, rfl, rfl⟩ | ⟨x, rfl, rfl, hw⟩ | ⟨x, rfl, rfl, hw⟩
  · simp only [mstep, mnx] at hs
    cases hs
    exact lv_iconst hx hb hd rfl (kk ls H locs hL hI hR hS hz)
  · simp only [mstep, mnx] at hs
    split at hs
    · rename_i hr
      cases hs
      refine lv_bipush hx hb hd ?_ (kk ls H locs hL hI hR hS hz)
      rw [← Int32.toInt_inj, Int8.toInt_toInt32, Int8.toInt_ofInt_of_le (by omega) (by omega), Int32.toInt_ofInt_of_le (by omega) (by omega)]
    · cases hs
  · simp only [mstep, mnx] at hs
    split at hs
    · rename_i hr
      cases hs
      refine lv_sipush hx hb hd ?_ (kk ls H locs hL hI hR hS hz)
      rw [← Int32.toInt_inj, Int16.toInt_toInt32, Int16.toInt_ofInt_of_le (by omega) (by omega), Int32.toInt_ofInt_of_le (by omega) (by omega)]
    · cases hs
  · simp only [mstep, mnx] at hs
    cases hs
    exact lv_lconst hx hb hd rfl (kk ls H locs hL hI hR hS hz)
  · simp only [mstep, mnx] at hs
    cases hs
    exact lv_ldc hx hb hown (hts _ hw) hd (kk ls H locs hL hI hR hS hz)
  · simp only [mstep, mnx] at hs
    cases hs
    exact lv_ldcw hx hb hown (hts _ hw) hd (kk ls H locs hL hI hR hS hz)
end MS
