/-! Steps: new cells; Object's constructor. -/
section MS4
variable {p : Program} {l : Launch} {e : Env} {R : Room} {s : State} {m : MethodId} {args : Array Value} {below : List Frame} {meth : Method} {c : Code} {Q : State → Prop}
variable {cc : ByteArray} {own : String} {ini : Bool} {good : List Cond} {D : va_G} {cl : List vw_C} {n0 b mt : Nat} {cA : Nat → ClassId} {ft : Nat → Nat → Nat} {L0 : Nat} {xs : Nat → Int32} {strs : List (String × Nat × String)} {nw : List Cond}
variable {pc pc' : Nat} {L L' : mLs} {st st' : List mV} {h h' : mH} {cells slots dc ds : Nat} {fd : Nat → Nat → Int} {nf : Nat → Nat}
/-- the new cell's address -/
theorem mnewq {q k : Nat} {ev : va_E} {ws : va_W} {H1 : Heap} (hlen : ws.length = k) (hws : ∀ i, i < k → ∃ e, ws[i]? = some (n0 + i, e)) (hP : va_P D cl (ws ++ [(q, ev)]) H1) (hD : va_D (fun q => n0 ≤ q) (ws ++ [(q, ev)])) (hz : H1.size ≤ n0 + k + 1) : q = n0 + k := by
  have hq : (ws ++ [(q, ev)])[k]? = some (q, ev) := by
    rw [List.getElem?_append_right (by omega), hlen, Nat.sub_self]; rfl
  have h1 : q < H1.size := (hP k (q, ev) hq).lt
  have h2 : n0 ≤ q := hD.2 k (q, ev) hq
  by_cases h3 : q < n0 + k
  · obtain ⟨e9, h4⟩ := hws (q - n0) (by omega)
    have h5 : (ws ++ [(q, ev)])[q - n0]? = some (n0 + (q - n0), e9) := by
      rw [List.getElem?_append_left (by omega)]; exact h4
    have h6 := hD.1 (q - n0) k (n0 + (q - n0), e9) (q, ev) h5 hq (by show n0 + (q - n0) = q; omega)
    omega
  · omega
theorem mws_all {i : Nat} {ad : Nat → Nat} (hi : i < h.1.length - 2) : ∃ e, (mws n0 ad cA ft h)[i]? = some (n0 + i, e) := by
  have h1 : h.1[i + 2]? = some (h.1[i + 2]'(by omega)) := List.getElem?_eq_getElem (by omega)
  have h2 := mws_get (n0 := n0) (ad := ad) (cA := cA) (ft := ft) (h := h) (a := i + 2) (by omega) h1
  exact ⟨_, h2⟩
theorem mnew_ok {kd n : Nat} {d : Nat → Int} {f : Nat → mH → Option mO} {r : mO} (hs : mnew h kd n d f = some r) : h.2.2 = true ∧ f h.1.length (h.1 ++ [(kd, n)], (fun b j => if b = h.1.length then d j else h.2.1 b j), true) = some r := by
  unfold mnew at hs
  split at hs
  · rename_i hf
    exact ⟨hf, hs⟩
  · cases hs
theorem mpay_ok {k : Nat} {o : Option mO} (hs : mpay k o = some (.inl (pc', L', st', h', dc, ds))) : ∃ dc0 ds0, o = some (.inl (pc', L', st', h', dc0, ds0)) ∧ dc = dc0 + 1 ∧ ds = ds0 + k := by
  unfold mpay at hs
  split at hs
  · cases hs
    exact ⟨_, _, rfl, rfl, rfl⟩
  · cases hs
/-- behind the making of a cell -/
theorem mnew_go {kd n q : Nat} {d : Nat → Int} {ev : va_E} {ls : Array Slot} {H1 : Heap} {locs : List Loc} {pc2 : Nat} {r : List mV}
    (hL : mLR (mad n0 b mt) L ls) (hI : mI0 L0 xs h) (hz : s.heap.size + cells = n0 + (h.1.length - 2)) (hev : mcell (mad n0 b mt) cA ft kd n d = ev)
    (hP : va_P D cl (mws n0 (mad n0 b mt) cA ft h ++ [(q, ev)]) H1) (hD : va_D (fun q => n0 ≤ q) (mws n0 (mad n0 b mt) cA ft h ++ [(q, ev)])) (hS : va_S (fun q => n0 ≤ q) s.heap H1 locs)
    (kk : mK p l e R s m args below meth c Q D cl n0 b mt cA ft L0 xs pc2 L (mP (some h.1.length) :: r) (h.1 ++ [(kd, n)], (fun b j => if b = h.1.length then d j else h.2.1 b j), true) (cells + 1) (slots + n)) :
    W p l e R s m args below meth c H1 locs (cells + 1) (slots + n) Q (F0 m pc2 ls (.ref q :: r.map (menc (mad n0 b mt)))) := by
  intro T hT X
  have hsz := X.heapSize
  rw [hT] at hsz
  have h2 := hI.len
  have hq : q = n0 + (h.1.length - 2) := mnewq mws_len (fun i hi => mws_all hi) hP hD (by omega)
  subst hq
  have k8 := kk ls H1 locs hL hI.new (by unfold mRel; rw [mws_new h2 hev]; exact ⟨hP, hD⟩) hS (fun _ => by
    show s.heap.size + (cells + 1) = n0 + ((h.1 ++ [(kd, n)]).length - 2)
    rw [List.length_append]
    simp only [List.length_cons, List.length_nil]
    omega)
  rw [show n0 + (h.1.length - 2) = mad n0 b mt h.1.length from (mad_ge h2).symm]
  exact k8 T hT X
theorem mcA_prim {cA' : ClassId} {k : Nat} (hK : va_K D cl (mty cA) s) (hK' : va_K D cl (mty cA ++ [(cA', mky k)]) s) (hk : k < 7) : cA' = cA k := by
  have h1 := (hK.2 k _ (mty_get hk)).2
  have h2 := (hK'.2 7 (cA', mky k) (by rw [List.getElem?_append_right (by simp [mty])]; simp [mty])).2
  rcases (show k = 0 ∨ k = 1 ∨ k = 2 ∨ k = 3 ∨ k = 4 ∨ k = 5 ∨ k = 6 by omega) with rfl | rfl | rfl | rfl | rfl | rfl | rfl
  · exact Option.some.inj (h2.symm.trans h1)
  · exact Option.some.inj (h2.symm.trans h1)
  · exact Option.some.inj (h2.symm.trans h1)
  all_goals
    obtain ⟨_, _, -, -, -, e1⟩ := h1
    obtain ⟨_, _, -, -, -, e2⟩ := h2
    exact Option.some.inj (e2.symm.trans e1)
theorem mF_newarray {t : ArrayType} {a b' c' : Nat} (F : mFr p s m args meth c cc own ini good D cl n0 b mt cA ft L0 xs strs nw) (hd : decode cc pc = .ok (.newarray t, 2)) (hw : Cond.arrayClass (newarray.typeOf t) ∈ good)
    (hs : mstep fd nf (.newarray t, 2, a, b', c') pc L st h = some (.inl (pc', L', st', h', dc, ds))) (hrc : cells + dc ≤ R.cells) (hrs : slots + ds ≤ R.slots)
    (kk : mK p l e R s m args below meth c Q D cl n0 b mt cA ft L0 xs pc' L' st' h' (cells + dc) (slots + ds)) : mK p l e R s m args below meth c Q D cl n0 b mt cA ft L0 xs pc L st h cells slots := by
  obtain ⟨hx, hb, hown, hts, hini, hCl, hK, hX, hZ, hT, hU, hN, hbn, hns, hL0, -, -⟩ := F
  intro ls H locs hL hI hR hS hz
  simp only [mstep, mnx] at hs
  unfold mi1 at hs
  split at hs
  · rename_i x r
    dsimp only at hs
    split at hs
    · rename_i hr
      obtain ⟨dc0, ds0, h1, rfl, rfl⟩ := mpay_ok hs
      obtain ⟨hf, h2⟩ := mnew_ok h1
      cases h2
      have hz1 := hz hf
      have hn : ¬ Int32.ofInt x < 0 := by
        rw [Int32.lt_iff_toInt_lt]
        show ¬ m32 x < (0 : Int32).toInt
        rw [show (0 : Int32).toInt = 0 from rfl]
        omega
      have hN : (Int32.ofInt x).toNatClampNeg = (m32 x).toNat := rfl
      rw [Nat.zero_add] at hrs
      cases t <;> simp only [mkArr] at hr hs kk <;> try (exfalso; omega)
      · refine va_newa (atype := .boolean) (ty := .boolean) (a0 := ((m32 x).toNat, .inl fun _ => Int32.ofInt 0)) hx hb (hts _ hw) rfl hK hR.1 hR.2 hS (fun q hq => Nat.le_trans hns hq) (fun cA => by rw [vp_cell_i]; rfl) hn hN (by simp only [componentBytes]; omega) hrc hrs hd fun q cA' H1 hK' hP' hD' hS' => ?_
        have e1 : cA' = cA 1 := mcA_prim hK hK' (by omega)
        subst e1
        rw [Nat.zero_add, Nat.zero_add] at kk
        exact mnew_go hL hI hz1 (mcell_i (by omega)) hP' hD' hS' kk
      · refine va_newa (atype := .int) (ty := .int) (a0 := ((m32 x).toNat, .inl fun _ => Int32.ofInt 0)) hx hb (hts _ hw) rfl hK hR.1 hR.2 hS (fun q hq => Nat.le_trans hns hq) (fun cA => by rw [vp_cell_i]; rfl) hn hN (by simp only [componentBytes]; omega) hrc hrs hd fun q cA' H1 hK' hP' hD' hS' => ?_
        have e1 : cA' = cA 0 := mcA_prim hK hK' (by omega)
        subst e1
        rw [Nat.zero_add, Nat.zero_add] at kk
        exact mnew_go hL hI hz1 (mcell_i (by omega)) hP' hD' hS' kk
    · cases hs
  · cases hs
theorem mF_anewarray {idx a b' c' : Nat} {C : String} (F : mFr p s m args meth c cc own ini good D cl n0 b mt cA ft L0 xs strs nw) (hd : decode cc pc = .ok (.anewarray idx, 3)) (hk1 : 2 < a) (hk2 : a < 7) (hC : mky a = .object C) (hw : Cond.classLink own idx C ∈ good)
    (hs : mstep fd nf (.anewarray idx, 3, a, b', c') pc L st h = some (.inl (pc', L', st', h', dc, ds))) (hrc : cells + dc ≤ R.cells) (hrs : slots + ds ≤ R.slots)
    (kk : mK p l e R s m args below meth c Q D cl n0 b mt cA ft L0 xs pc' L' st' h' (cells + dc) (slots + ds)) : mK p l e R s m args below meth c Q D cl n0 b mt cA ft L0 xs pc L st h cells slots := by
  obtain ⟨hx, hb, hown, hts, hini, hCl, hK, hX, hZ, hT, hU, hN, hbn, hns, hL0, -, -, hao, -⟩ := F
  intro ls H locs hL hI hR hS hz
  simp only [mstep, mnx] at hs
  unfold mi1 at hs
  split at hs
  · rename_i x r
    dsimp only at hs
    split at hs
    · rename_i hr
      obtain ⟨dc0, ds0, h1, rfl, rfl⟩ := mpay_ok hs
      obtain ⟨hf, h2⟩ := mnew_ok h1
      cases h2
      have hz1 := hz hf
      have hn : ¬ Int32.ofInt x < 0 := by
        rw [Int32.lt_iff_toInt_lt]
        show ¬ m32 x < (0 : Int32).toInt
        rw [show (0 : Int32).toInt = 0 from rfl]
        omega
      have hN : (Int32.ofInt x).toNatClampNeg = (m32 x).toNat := rfl
      rw [Nat.zero_add] at hrs
      refine va_newq hx hb hown (hts _ hw) (hao a hk1 hk2 C hC) hK hR.1 hR.2 hS (fun q hq => Nat.le_trans hns hq) hn hN (by omega) hrc hrs hd fun q cA' H1 hK' hP' hD' hS' => ?_
      rw [← hC] at hK'
      have e1 : cA' = cA a := mcA_prim hK hK' hk2
      subst e1
      rw [Nat.zero_add, Nat.zero_add] at kk
      exact mnew_go hL hI hz1 (mcell_q hk1 (by omega)) hP' hD' hS' kk
    · cases hs
  · cases hs
theorem mF_new {idx a b' c' : Nat} {q : vw_C} (F : mFr p s m args meth c cc own ini good D cl n0 b mt cA ft L0 xs strs nw) (hd : decode cc pc = .ok (.new idx, 3)) (hb1 : b' ≠ 1)
    (hc : cl[a]? = some q) (hnf : nf a = q.2.2) (hfd : ∀ j, fd a j = if ft a j = 1 then -1 else 0) (hw1 : Cond.classLink own idx q.1 ∈ good) (hw2 : Cond.instantiable q.1 q.2.2 ∈ good) (hw3 : Cond.initialized q.1 ∈ good)
    (hs : mstep fd nf (.new idx, 3, a, b', c') pc L st h = some (.inl (pc', L', st', h', dc, ds))) (hrc : cells + dc ≤ R.cells) (hrs : slots + ds ≤ R.slots)
    (kk : mK p l e R s m args below meth c Q D cl n0 b mt cA ft L0 xs pc' L' st' h' (cells + dc) (slots + ds)) : mK p l e R s m args below meth c Q D cl n0 b mt cA ft L0 xs pc L st h cells slots := by
  obtain ⟨hx, hb, hown, hts, hini, hCl, hK, hX, hZ, hT, hU, hN, hbn, hns, hL0, -, -⟩ := F
  intro ls H locs hL hI hR hS hz
  obtain ⟨hin, hnm, ty, hty⟩ := hCl a q hc
  simp only [mstep, mnx] at hs
  rw [if_neg hb1] at hs
  obtain ⟨dc0, ds0, h1, rfl, rfl⟩ := mpay_ok hs
  obtain ⟨hf, h2⟩ := mnew_ok h1
  cases h2
  have hz1 := hz hf
  rw [Nat.zero_add] at hrs
  rw [Nat.zero_add, Nat.zero_add] at kk
  rw [hnf] at hrs kk
  refine va_new (ci := a) (fs := (List.range q.2.2).map fun j => mfv (mad n0 b mt) (ft a j) (fd a j)) hx hb hts hin ty (fun k hk => (hty k hk).1) hown (hts _ hw1) (hts _ hw2) (hts _ hw3) hK hR.1 hR.2 hS (fun q hq => Nat.le_trans hns hq) hc (fun j hj => ?_) hrc hrs hd fun q' H1 hP' hD' hS' => ?_
  · unfold vp_V
    rw [List.getD_eq_getElem?_getD, List.getElem?_map, List.getElem?_range hj]
    show defaultValue (ty j) = mfv (mad n0 b mt) (ft a j) (fd a j)
    rw [hfd]
    rcases (hty j hj).2 with ⟨g1, ⟨n, g2⟩ | ⟨t, g2⟩⟩ | ⟨g1, g2⟩ | ⟨g1, g2⟩ <;> rw [g1, g2] <;> rfl
  · exact mnew_go hL hI hz1 mcell_o hP' hD' hS' kk
theorem mF_objInit {idx a b' : Nat} (F : mFr p s m args meth c cc own ini good D cl n0 b mt cA ft L0 xs strs nw) (hd : decode cc pc = .ok (.invokespecial idx, 3)) (hLn : L.length = c.maxLocals)
    (hw1 : Cond.methodLink own idx Lib.objectInit ∈ good) (hw2 : Cond.instanceMethod Lib.objectInit ∈ good) (hw3 : Cond.code Lib.objectInit ⟨#[0xb1]⟩ 1 none ∈ good) (hf : 1 ≤ R.frames) (hl : 20 ≤ R.locals)
    (hs : mstep fd nf (.invokespecial idx, 3, a, b', 99) pc L st h = some (.inl (pc', L', st', h', dc, ds)))
    (kk : mK p l e R s m args below meth c Q D cl n0 b mt cA ft L0 xs pc' L' st' h' (cells + dc) (slots + ds)) : mK p l e R s m args below meth c Q D cl n0 b mt cA ft L0 xs pc L st h cells slots := by
  obtain ⟨hx, hb, hown, hts, hini, hCl, hK, hX, hZ, hT, hU, hN, hbn, hns, hL0, -, -⟩ := F
  intro ls H locs hL hI hR hS hz
  simp only [mstep, mnx] at hs
  rw [if_pos trivial] at hs
  unfold mp1 at hs
  split at hs
  · rename_i o r
    dsimp only at hs
    split at hs
    · rename_i hr
      cases hs
      refine W.objInit hx hb hown (hts _ hw1) (hts _ hw2) (hts _ hw3) rfl (by rw [← hLn]; exact hL.1) rfl hd hf ?_ ?_
      · show 2 * 0 + ((st'.map (menc (mad n0 b mt))).map fun v => v.category).sum + 12 ≤ R.locals
        rw [menc_cats]
        omega
      · exact kk ls H locs hL hI hR hS hz
    · cases hs
  · cases hs
end MS4
