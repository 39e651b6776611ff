/-! The program's static data, contracts, calls. -/
/-- a method's word -/
def mwd (y : MethodName) (cc : ByteArray) (n : Nat) (ret : Option FieldType) (hh : Option (List (Nat × Nat × Nat × Nat))) : Cond := match hh with
  | none => .code y cc n ret
  | some hs => .codeWith y cc n ret hs
section MC
variable {p : Program} {l : Launch} {e : Env} {R : Room} {s : State} {m : MethodId} {args : Array Value} {below : List Frame} {meth : Method} {c : Code} {Q : State → Prop}
variable {cc : ByteArray} {own : String} {ini : Bool} {good : List Cond} {D : va_G} {cl : List vw_C} {n0 b mt : Nat} {cA : Nat → ClassId} {ft : Nat → Nat → Nat} {L0 : Nat} {xs : Nat → Int32} {strs : List (String × Nat × String)} {nw : List Cond}
variable {pc pc' : Nat} {L L' : mLs} {st st' : List mV} {h h' : mH} {cells slots dc ds : Nat} {fd : Nat → Nat → Int} {nf : Nat → Nat} {H H0 H1 : Heap} {locs : List Loc}
theorem mSt.warm {u U : State} (hW : u.WarmedH U.vm) (hnw : ∀ w ∈ nw, mNwOk w) (hm : mSt D cl n0 b mt cA L0 xs strs nw u H) : mSt D cl n0 b mt cA L0 xs strs nw U H := by
  obtain ⟨h1, h2, h3, h4, h5, h6, h7, h8, h9, h10, h11, h12, h13, h14⟩ := hm
  have hA := hW.alike
  refine ⟨va_K.moved hA h1, va_X.moved hA h2, va_Z.moved hA h3, va_T.moved hA h4, vx_Zq.moved hA h5, vx_Zq.moved hA h6, h7, h8, h9, fun q hq => ?_, fun w hw => ?_, fun k k1 k2 C hC => va_AO.moved hA (h12 k k1 k2 C hC), fun i hi => va_Nw.warmC hW (h13 i hi), fun i j hi hj hij => va_Nc.moved hA (h14 i j hi hj hij)⟩
  · obtain ⟨sa, h⟩ := h10 q hq
    exact ⟨sa, vk_R.warm hW h⟩
  · rcases hnw w hw with ⟨a, i, x, hh, rfl⟩ | ⟨x, rfl⟩
    · exact va_Nw.warmM hW (h11 _ hw)
    · exact va_Nw.warmD hW (h11 _ hw)
theorem mSt.kept {U : State} (hS : va_S (fun q => n0 ≤ q) H0 H locs) (hm : mSt D cl n0 b mt cA L0 xs strs nw U H0) : mSt D cl n0 b mt cA L0 xs strs nw U H := by
  obtain ⟨h1, h2, h3, h4, h5, h6, h7, h8, h9, h10⟩ := hm
  exact ⟨h1, h2.kept (hS.2.1 b (Nat.lt_of_lt_of_le h7 h8) (by show ¬ n0 ≤ b; omega)), h3.kept hS.2.1, h4.kept hS.2.1, h5.kept hS.2.1, h6.kept hS.2.1, h7, Nat.le_trans h8 hS.1, h9, h10⟩
theorem mRel_size (hR : mRel D cl n0 (mad n0 b mt) cA ft h H) (hn : n0 ≤ H.size) : n0 + (h.1.length - 2) ≤ H.size := by
  by_cases hl : h.1.length - 2 = 0
  · omega
  · obtain ⟨e9, h1⟩ := mws_all (n0 := n0) (ad := mad n0 b mt) (cA := cA) (ft := ft) (h := h) (i := h.1.length - 2 - 1) (by omega)
    have h2 := (hR.1 _ _ h1).lt
    have h3 : n0 + (h.1.length - 2 - 1) < H.size := h2
    omega
/-- a contract's start and ends -/
def mPc (D : va_G) (cl : List vw_C) (n0 b mt : Nat) (cA : Nat → ClassId) (ft : Nat → Nat → Nat) (L0 : Nat) (xs : Nat → Int32) (strs : List (String × Nat × String)) (nw : List Cond) (h : mH) (vs : List mV) : Array Value → State → Prop := fun a U =>
  a = (vs.map (menc (mad n0 b mt))).toArray ∧ mI0 L0 xs h ∧ mRel D cl n0 (mad n0 b mt) cA ft h U.heap ∧ mSt D cl n0 b mt cA L0 xs strs nw U U.heap ∧ (h.2.2 = true → U.heap.size = n0 + (h.1.length - 2))
def mEnd (D : va_G) (cl : List vw_C) (n0 b mt : Nat) (cA : Nat → ClassId) (ft : Nat → Nat → Nat) (L0 : Nat) (xs : Nat → Int32) (r : mR) (st t : State) : Prop :=
  mI0 L0 xs r.2.1 ∧ mRel D cl n0 (mad n0 b mt) cA ft r.2.1 t.heap ∧ (r.2.1.2.2 = true → st.heap.size + r.2.2.1 = n0 + (r.2.1.1.length - 2)) ∧ va_F (fun q => n0 ≤ q) st t
def mQc (D : va_G) (cl : List vw_C) (n0 b mt : Nat) (cA : Nat → ClassId) (ft : Nat → Nat → Nat) (L0 : Nat) (xs : Nat → Int32) (r : mR) : Array Value → State → Outcome → State → Prop := fun _ st o t =>
  (∃ v, r.1 = .inl v ∧ o = .returned (v.map (menc (mad n0 b mt)))) ∧ mEnd D cl n0 b mt cA ft L0 xs r st t
def mXC (D : va_G) (cl : List vw_C) (n0 b mt : Nat) (cA : Nat → ClassId) (ft : Nat → Nat → Nat) (L0 : Nat) (xs : Nat → Int32) (r : mR) : String → State → State → Prop := fun E st t =>
  (∃ i, r.1 = .inr i ∧ E = pE i) ∧ mEnd D cl n0 b mt cA ft L0 xs r st t
theorem mPc_blind {vs : List mV} (hnw : ∀ w ∈ nw, mNwOk w) : FrameBlind (mPc D cl n0 b mt cA ft L0 xs strs nw h vs) := by
  intro a U g mk hP
  obtain ⟨h1, h2, h3, h4, h5⟩ := hP
  obtain ⟨g1, g2, g3, g4, g5, g6, g7, g8, g9, g10, g11, g12, g13, g14⟩ := h4
  have hA : U.vm.Alike (U.calling g mk a).vm := Vm.Alike.refl U.vm
  refine ⟨h1, h2, h3, ⟨va_K.moved hA g1, va_X.moved hA g2, va_Z.moved hA g3, va_T.moved hA g4, vx_Zq.moved hA g5, vx_Zq.moved hA g6, g7, g8, g9, fun q hq => ?_, fun w hw => ?_, fun k k1 k2 C hC => va_AO.moved hA (g12 k k1 k2 C hC), fun i hi => va_Nw.same rfl (u := U) rfl (g13 i hi), fun i j hi hj hij => va_Nc.moved hA (g14 i j hi hj hij)⟩, h5⟩
  · obtain ⟨sa, h⟩ := g10 q hq
    exact ⟨sa, vk_R.same rfl h⟩
  · exact va_Nw.same (hnw w hw).tab (u := U) rfl (g11 _ hw)
/-- a contract that doesn't throw, for the calls that want one -/
theorem vx_Met.noThrow {y : MethodName} {ws : List Cond} {rm : Room} {Pc : Array Value → State → Prop} {Qc : Array Value → State → Outcome → State → Prop} {XC : String → State → State → Prop} {mc ms : Nat} {free : Addr → Prop}
    (hM : vx_Met l y ws rm Pc Qc XC mc ms free) (hX : ∀ E st t, ¬ XC E st t) : Met l y ws rm Pc Qc mc ms free := by
  intro p e ha hc hk s m args below hf happ hP hK
  obtain ⟨n, o, h1, h2, h3, hq⟩ := hM p e ha hc hk s m args below hf happ hP hK
  refine ⟨n, o, h1, h2, h3, ?_⟩
  rcases hq with hq | ⟨q, -, E, ce, Ls, hx, -⟩
  · exact hq
  · exact absurd hx (hX _ _ _)
theorem va_Run.x {own : String} {mc ms : Nat} {g : JFrame} {rest : List Value} {Qa : State → Outcome → State → Prop} {XC : String → State → State → Prop} {free : Addr → Prop}
    (hr : va_Run p l e R s m args below meth c H locs cells slots mc ms g rest Qa free) : vx_Run p l e R s m args below meth c H locs cells slots mc ms g rest Qa XC free :=
  fun T hT X => Or.inl (hr T hT X)
/-- behind a call -/
theorem mCall_use {r : mR} {ls : Array Slot} {st0 rest : List Value} {a : Array Value}
    (hr : vx_Run p l e R s m args below meth c H locs cells slots r.2.2.1 r.2.2.2 (F0 m pc ls st0) rest (mQc D cl n0 b mt cA ft L0 xs r a) (mXC D cl n0 b mt cA ft L0 xs r) (fun q => n0 ≤ q))
    (hS : va_S (fun q => n0 ≤ q) s.heap H locs) (hz : r.2.1.2.2 = true → s.heap.size + cells = H.size)
    (kx : ∀ (i : Nat) (H1 : Heap) (locs1 : List Loc) (q : Addr) (ce : Cell), r.1 = .inr i → mI0 L0 xs r.2.1 → mRel D cl n0 (mad n0 b mt) cA ft r.2.1 H1 → va_S (fun q => n0 ≤ q) s.heap H1 locs1 → (r.2.1.2.2 = true → s.heap.size + (cells + r.2.2.1) = n0 + (r.2.1.1.length - 2)) → H1[q]? = some ce → ce.vm = .none → s.vm.findClass (pE i) = some ce.cls →
      vx_W p l e R s m args below meth c H1 locs1 (cells + r.2.2.1) (slots + r.2.2.2) Q (F0 m pc ls rest) q)
    (kk : ∀ (v : Option mV) (H1 : Heap) (locs1 : List Loc), r.1 = .inl v → mI0 L0 xs r.2.1 → mRel D cl n0 (mad n0 b mt) cA ft r.2.1 H1 → va_S (fun q => n0 ≤ q) s.heap H1 locs1 → (r.2.1.2.2 = true → s.heap.size + (cells + r.2.2.1) = n0 + (r.2.1.1.length - 2)) →
      W p l e R s m args below meth c H1 locs1 (cells + r.2.2.1) (slots + r.2.2.2) Q (F0 m (pc + 3) ls ((v.map (menc (mad n0 b mt))).toList ++ rest))) :
    W p l e R s m args below meth c H locs cells slots Q (F0 m pc ls st0) := by
  intro T hT X
  rcases hr T hT X with ⟨v, st₀, t, T', Lq, h0, X', hL, e1, e2, ⟨⟨v', hv1, hv2⟩, g1, g2, g3, g4⟩, st⟩ | ⟨q, st₀, t, T', Lq, E, ce, h0, X', hL, e1, e2, ⟨⟨i, hi, hE⟩, g1, g2, g3, g4⟩, hce, hcv, hcl, st⟩
  · cases hv2
    obtain ⟨k1, k2, k3⟩ := vx_keep h0 e1 hS (fun _ _ h => h) (fun _ h => h) hL g4
    obtain ⟨t2, a1, b1⟩ := kk v' T'.heap (locs ++ Lq) hv1 g1 (by rw [e1]; exact g2) k3 (fun hf => by rw [← g3 hf, h0, ← hz hf]; omega) T' rfl X'
    exact ⟨t2, st t2 a1, b1⟩
  · subst hE
    obtain ⟨k1, k2, k3⟩ := vx_keep h0 e1 hS (fun _ _ h => h) (fun _ h => h) hL g4
    obtain ⟨t2, a1, b1⟩ := kx i T'.heap (locs ++ Lq) q ce hi g1 (by rw [e1]; exact g2) k3 (fun hf => by rw [← g3 hf, h0, ← hz hf]; omega) (by rw [e1]; exact hce) hcv hcl T' rfl X'
    exact ⟨t2, st.trans a1, b1⟩
theorem W.size {g : JFrame} (k : H.size ≤ s.heap.size + cells → W p l e R s m args below meth c H locs cells slots Q g) : W p l e R s m args below meth c H locs cells slots Q g := fun T hT X => k (by rw [← hT]; exact X.heapSize) T hT X
theorem mstack {k : Nat} {v : mV} (hv : st[k]? = some v) : (st.take (k + 1)).reverse = v :: (st.take k).reverse ∧ st = st.take k ++ v :: st.drop (k + 1) := by
  have hl := (List.getElem?_eq_some_iff.mp hv).1
  have he : st[k] = v := (List.getElem?_eq_some_iff.mp hv).2
  refine ⟨?_, ?_⟩
  · rw [List.take_succ, hv]
    simp
  · rw [← he]
    simp
theorem mPre {vs : List mV} (hR : mRel D cl n0 (mad n0 b mt) cA ft h H) (hI : mI0 L0 xs h) (hS : va_S (fun q => n0 ≤ q) s.heap H locs) (hSt : mSt D cl n0 b mt cA L0 xs strs nw s s.heap) (hnw : ∀ w ∈ nw, mNwOk w) (hz : h.2.2 = true → H.size = n0 + (h.1.length - 2)) :
    ∀ U : State, U.heap = H → s.WarmedH U.vm → mPc D cl n0 b mt cA ft L0 xs strs nw h vs (vs.map (menc (mad n0 b mt))).toArray U := by
  intro U hU hW
  refine ⟨rfl, hI, by rw [hU]; exact hR, ?_, by rw [hU]; exact hz⟩
  rw [hU]
  exact (hSt.kept hS).warm hW hnw
theorem mgood {y : MethodName} {cc' : ByteArray} {n' : Nat} {ret' : Option FieldType} {hh' : Option (List (Nat × Nat × Nat × Nat))} (hwd : mwd y cc' n' ret' hh' ∈ good) (hgw : ∀ w ∈ good, goodWord w = true) : GoodIn good (mwd y cc' n' ret' hh' :: good) := by
  intro w hw
  rcases List.mem_cons.mp hw with rfl | hw
  · exact ⟨hwd, good_of_word (hgw _ hwd)⟩
  · exact ⟨hw, good_of_word (hgw _ hw)⟩
/-- a call of an instance method -/
theorem mCall_V {y : MethodName} {cc' : ByteArray} {n' fr lo idx k c' : Nat} {ret' : Option FieldType} {r : mR} {q : vw_C} {ls : Array Slot} (F : mFr p s m args meth c cc own ini good D cl n0 b mt cA ft L0 xs strs nw)
    (hgw : ∀ w ∈ good, goodWord w = true) (hnw : ∀ w ∈ nw, mNwOk w)
    (hM : vx_Met l y (mwd y cc' n' ret' none :: good) { frames := fr, locals := lo, cells := r.2.2.1, slots := r.2.2.2 } (mPc D cl n0 b mt cA ft L0 xs strs nw h (st.take (k + 1)).reverse) (mQc D cl n0 b mt cA ft L0 xs r) (mXC D cl n0 b mt cA ft L0 xs r) r.2.2.1 r.2.2.2 (fun q => n0 ≤ q))
    (hfr : fr + 1 ≤ R.frames) (hlo : 8 + (n' + 11) + lo ≤ R.locals) (hwd : mwd y cc' n' ret' none ∈ good) (hini : Cond.initialized y.cls ∈ good) (hmh : y.cls ≠ "java/lang/invoke/MethodHandle" ∧ y.cls ≠ "java/lang/invoke/VarHandle") (hsig : ∀ sig, parseMethodDescriptor y.desc = some sig → k = sig.parameters.length)
    (hl : Cond.methodLink own idx y ∈ good) (hin : Cond.instanceMethod y ∈ good) (hse : Cond.selects y.cls y y ∈ good) (hcl : cl[c']? = some q) (hcq : q.1 = y.cls)
    (hd : decode cc pc = .ok (.invokevirtual idx, 3)) (hob : mobj h c' (st[k]?) = true) (hsum : ((st.drop (k + 1)).map mcat).sum ≤ 8)
    (hR : mRel D cl n0 (mad n0 b mt) cA ft h H) (hI : mI0 L0 xs h) (hS : va_S (fun q => n0 ≤ q) s.heap H locs) (hz : h.2.2 = true → H.size = n0 + (h.1.length - 2)) (hsz : ls.size = c.maxLocals) (hrc : cells + r.2.2.1 ≤ R.cells) (hrs : slots + r.2.2.2 ≤ R.slots) :
    vx_Run p l e R s m args below meth c H locs cells slots r.2.2.1 r.2.2.2 (F0 m pc ls (st.map (menc (mad n0 b mt)))) ((st.drop (k + 1)).map (menc (mad n0 b mt))) (mQc D cl n0 b mt cA ft L0 xs r ((st.take (k + 1)).reverse.map (menc (mad n0 b mt))).toArray) (mXC D cl n0 b mt cA ft L0 xs r) (fun q => n0 ≤ q) := by
  obtain ⟨hx, hb, hown, hts, -, -, hSt⟩ := F
  unfold mobj at hob
  split at hob
  · rename_i a ha
    simp only [Bool.and_eq_true, decide_eq_true_eq] at hob
    obtain ⟨ha2, hob⟩ := hob
    split at hob
    · rename_i N hN
      obtain ⟨e1, e2⟩ := mstack ha
      have hk : k < st.length := (List.getElem?_eq_some_iff.mp ha).1
      have hg := mws_get (n0 := n0) (ad := mad n0 b mt) (cA := cA) (ft := ft) ha2 (msz_ok hN)
      rw [mcell_o] at hg
      have hpre := mPre (vs := (st.take (k + 1)).reverse) hR hI hS hSt hnw hz
      rw [e1] at hpre hM ⊢
      have hrecv := va_recv hSt.1 hR.1 hcl hg
      rw [hcq, ← mad_ge (b := b) (mt := mt) ha2] at hrecv
      have hstk : st.map (menc (mad n0 b mt)) = (((st.take k).reverse).map (menc (mad n0 b mt))).reverse ++ Value.ref (mad n0 b mt a) :: (st.drop (k + 1)).map (menc (mad n0 b mt)) := by
        conv => lhs; rw [e2]
        simp [menc]
      refine vx_runV (own := own) (C := y.cls) (As := ((st.take k).reverse).map (menc (mad n0 b mt))) ⟨hx, hb, rfl, hown, hts⟩ hM ⟨⟨rfl, rfl, hfr, hlo, pay_in hts (mgood hwd hgw), List.mem_cons_self, hts _ hwd, hts _ hini, hmh, hsig, hts _ hl⟩, hts _ hin, hts _ hse⟩ ⟨mPc_blind hnw, hrecv, hpre⟩ rfl ?_ hsz hstk ?_ hd ⟨hrc, hrs⟩
      · simp; omega
      · show 2 * 0 + _ ≤ 8
        rw [menc_cats]
        omega
    · cases hob
  · cases hob
theorem mtake {k : Nat} (hk : k ≤ st.length) : st.map (menc (mad n0 b mt)) = (((st.take k).reverse).map (menc (mad n0 b mt))).reverse ++ (st.drop k).map (menc (mad n0 b mt)) := by
  rw [← List.map_reverse, List.reverse_reverse, ← List.map_append, List.take_append_drop]
/-- a call of a static method -/
theorem mCall_S {y : MethodName} {cc' : ByteArray} {n' fr lo idx k : Nat} {ret' : Option FieldType} {hh' : Option (List (Nat × Nat × Nat × Nat))} {host : String} {r : mR} {ls : Array Slot} (F : mFr p s m args meth c cc own ini good D cl n0 b mt cA ft L0 xs strs nw)
    (hgw : ∀ w ∈ good, goodWord w = true) (hnw : ∀ w ∈ nw, mNwOk w)
    (hM : vx_Met l y (mwd y cc' n' ret' hh' :: good) { frames := fr, locals := lo, cells := r.2.2.1, slots := r.2.2.2 } (mPc D cl n0 b mt cA ft L0 xs strs nw h (st.take k).reverse) (mQc D cl n0 b mt cA ft L0 xs r) (mXC D cl n0 b mt cA ft L0 xs r) r.2.2.1 r.2.2.2 (fun q => n0 ≤ q))
    (hfr : fr + 1 ≤ R.frames) (hlo : 8 + (n' + 11) + lo ≤ R.locals) (hwd : mwd y cc' n' ret' hh' ∈ good) (hini : Cond.initialized y.cls ∈ good) (hmh : y.cls ≠ "java/lang/invoke/MethodHandle" ∧ y.cls ≠ "java/lang/invoke/VarHandle") (hsig : ∀ sig, parseMethodDescriptor y.desc = some sig → k = sig.parameters.length)
    (hl : Cond.methodLink own idx y ∈ good ∨ (hh' = none ∧ Cond.methodLinkNest own idx y host ∈ nw ∧ ∀ i, r.1 ≠ .inr i)) (hst : Cond.static y ∈ good)
    (hd : decode cc pc = .ok (.invokestatic idx, 3)) (hk : k ≤ st.length) (hsum : ((st.drop k).map mcat).sum ≤ 8)
    (hR : mRel D cl n0 (mad n0 b mt) cA ft h H) (hI : mI0 L0 xs h) (hS : va_S (fun q => n0 ≤ q) s.heap H locs) (hz : h.2.2 = true → H.size = n0 + (h.1.length - 2)) (hsz : ls.size = c.maxLocals) (hrc : cells + r.2.2.1 ≤ R.cells) (hrs : slots + r.2.2.2 ≤ R.slots) :
    vx_Run p l e R s m args below meth c H locs cells slots r.2.2.1 r.2.2.2 (F0 m pc ls (st.map (menc (mad n0 b mt)))) ((st.drop k).map (menc (mad n0 b mt))) (mQc D cl n0 b mt cA ft L0 xs r ((st.take k).reverse.map (menc (mad n0 b mt))).toArray) (mXC D cl n0 b mt cA ft L0 xs r) (fun q => n0 ≤ q) := by
  obtain ⟨hx, hb, hown, hts, -, -, hSt⟩ := F
  have hpre := mPre (vs := (st.take k).reverse) hR hI hS hSt hnw hz
  have hn : (((st.take k).reverse).map (menc (mad n0 b mt))).length = k := by simp; omega
  have hW8 : 2 * 0 + (((st.drop k).map (menc (mad n0 b mt))).map fun v => v.category).sum ≤ 8 := by
    rw [menc_cats]
    omega
  rcases hl with hl | ⟨rfl, hl, hnt⟩
  · cases hh' with
    | none => exact vx_runS (own := own) (As := ((st.take k).reverse).map (menc (mad n0 b mt))) ⟨hx, hb, rfl, hown, hts⟩ hM ⟨⟨rfl, rfl, hfr, hlo, pay_in hts (mgood hwd hgw), List.mem_cons_self, hts _ hwd, hts _ hini, hmh, hsig, hts _ hl⟩, hts _ hst⟩ ⟨mPc_blind hnw, hpre⟩ rfl hn hsz (mtake hk) hW8 hd ⟨hrc, hrs⟩
    | some hh => exact vx_runSX (own := own) (As := ((st.take k).reverse).map (menc (mad n0 b mt))) ⟨hx, hb, rfl, hown, hts⟩ hM ⟨⟨rfl, rfl, hfr, hlo, pay_in hts (mgood hwd hgw), List.mem_cons_self⟩, hts _ hwd, hts _ hini, hmh, hsig, hts _ hl, hts _ hst⟩ ⟨mPc_blind hnw, hpre⟩ rfl hn hsz (mtake hk) hW8 hd ⟨hrc, hrs⟩
  · have hM' := vx_Met.noThrow hM (fun E st t hX => by obtain ⟨⟨i, hi, -⟩, -⟩ := hX; exact hnt i hi)
    exact va_Run.x (own := own) (va_runSN (own := own) (host := host) (As := ((st.take k).reverse).map (menc (mad n0 b mt))) ⟨hx, hb, rfl, hown, hts⟩ hM' ⟨⟨⟨rfl, rfl, hfr, hlo, pay_in hts (mgood hwd hgw), List.mem_cons_self⟩, hts _ hwd, hts _ hini, hmh, hsig, va_Nw.use rfl (hSt.2.2.2.2.2.2.2.2.2.2.1 _ hl)⟩, hts _ hst, trivial⟩ ⟨mPc_blind hnw, hpre⟩ rfl hn hsz (mtake hk) hW8 hd ⟨hrc, hrs⟩)
/-- a call of a constructor -/
theorem mCall_I {y : MethodName} {cc' : ByteArray} {n' fr lo idx k : Nat} {host : String} {o : Nat} {r : mR} {ls : Array Slot} (F : mFr p s m args meth c cc own ini good D cl n0 b mt cA ft L0 xs strs nw)
    (hgw : ∀ w ∈ good, goodWord w = true) (hnw : ∀ w ∈ nw, mNwOk w)
    (hM : vx_Met l y (mwd y cc' n' none none :: good) { frames := fr, locals := lo, cells := r.2.2.1, slots := r.2.2.2 } (mPc D cl n0 b mt cA ft L0 xs strs nw h (st.take (k + 1)).reverse) (mQc D cl n0 b mt cA ft L0 xs r) (mXC D cl n0 b mt cA ft L0 xs r) r.2.2.1 r.2.2.2 (fun q => n0 ≤ q))
    (hnt : ∀ i, r.1 ≠ .inr i)
    (hfr : fr + 1 ≤ R.frames) (hlo : 8 + (n' + 11) + lo ≤ R.locals) (hwd : mwd y cc' n' none none ∈ good) (hini : Cond.initialized y.cls ∈ good) (hmh : y.cls ≠ "java/lang/invoke/MethodHandle" ∧ y.cls ≠ "java/lang/invoke/VarHandle") (hsig : ∀ sig, parseMethodDescriptor y.desc = some sig → k = sig.parameters.length)
    (hl : Cond.methodLink own idx y ∈ good ∨ Cond.methodLinkNest own idx y host ∈ nw) (hin : Cond.instanceMethod y ∈ good) (hname : y.name = "<init>")
    (hd : decode cc pc = .ok (.invokespecial idx, 3)) (ho : st[k]? = some (mP (some o))) (hsum : ((st.drop (k + 1)).map mcat).sum ≤ 8)
    (hR : mRel D cl n0 (mad n0 b mt) cA ft h H) (hI : mI0 L0 xs h) (hS : va_S (fun q => n0 ≤ q) s.heap H locs) (hz : h.2.2 = true → H.size = n0 + (h.1.length - 2)) (hsz : ls.size = c.maxLocals) (hrc : cells + r.2.2.1 ≤ R.cells) (hrs : slots + r.2.2.2 ≤ R.slots) :
    vx_Run p l e R s m args below meth c H locs cells slots r.2.2.1 r.2.2.2 (F0 m pc ls (st.map (menc (mad n0 b mt)))) ((st.drop (k + 1)).map (menc (mad n0 b mt))) (mQc D cl n0 b mt cA ft L0 xs r ((st.take (k + 1)).reverse.map (menc (mad n0 b mt))).toArray) (mXC D cl n0 b mt cA ft L0 xs r) (fun q => n0 ≤ q) := by
  obtain ⟨hx, hb, hown, hts, -, -, hSt⟩ := F
  have hM' := vx_Met.noThrow hM (fun E st t hX => by obtain ⟨⟨i, hi, -⟩, -⟩ := hX; exact hnt i hi)
  obtain ⟨e1, e2⟩ := mstack ho
  have hk : k < st.length := (List.getElem?_eq_some_iff.mp ho).1
  have hpre := mPre (vs := (st.take (k + 1)).reverse) hR hI hS hSt hnw hz
  rw [e1] at hpre hM' ⊢
  have hstk : st.map (menc (mad n0 b mt)) = (((st.take k).reverse).map (menc (mad n0 b mt))).reverse ++ Value.ref (mad n0 b mt o) :: (st.drop (k + 1)).map (menc (mad n0 b mt)) := by
    conv => lhs; rw [e2]
    simp [menc]
  have hn : (((st.take k).reverse).map (menc (mad n0 b mt))).length = k := by simp; omega
  have hW8 : 2 * 0 + (((st.drop (k + 1)).map (menc (mad n0 b mt))).map fun v => v.category).sum ≤ 8 := by
    rw [menc_cats]
    omega
  rcases hl with hl | hl
  · exact va_Run.x (own := own) (va_runI (own := own) (As := ((st.take k).reverse).map (menc (mad n0 b mt))) ⟨hx, hb, rfl, hown, hts⟩ hM' ⟨⟨rfl, rfl, hfr, hlo, pay_in hts (mgood hwd hgw), List.mem_cons_self, hts _ hwd, hts _ hini, hmh, hsig, hts _ hl⟩, hname, hts _ hin⟩ ⟨mPc_blind hnw, hpre⟩ rfl hn hsz hstk hW8 hd ⟨hrc, hrs⟩)
  · exact va_Run.x (own := own) (va_runIN (own := own) (host := host) (As := ((st.take k).reverse).map (menc (mad n0 b mt))) ⟨hx, hb, rfl, hown, hts⟩ hM' ⟨⟨⟨rfl, rfl, hfr, hlo, pay_in hts (mgood hwd hgw), List.mem_cons_self⟩, hts _ hwd, hts _ hini, hmh, hsig, va_Nw.use rfl (hSt.2.2.2.2.2.2.2.2.2.2.1 _ hl)⟩, hname, hts _ hin⟩ ⟨mPc_blind hnw, hpre⟩ rfl hn hsz hstk hW8 hd ⟨hrc, hrs⟩)
end MC
