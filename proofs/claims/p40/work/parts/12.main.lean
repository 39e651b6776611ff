/-! Ends, calls, and the simulation itself. -/
section SIM2
variable {p : Program} {l : Launch} {e : Env} {R : Room} {s : State} {m : MethodId} {args : Array Value} {below : List Frame} {meth : Method} {c : Code} {Q : State → Prop}
variable {good nw : List Cond} {D : va_G} {cl : List vw_C} {n0 b mt : Nat} {cA : Nat → ClassId} {ft : Nat → Nat → Nat} {L0 : Nat} {xs : Nat → Int32} {strs : List (String × Nat × String)}
variable {P : mProg} {pY : Nat → MethodName} {pC : Nat → ByteArray} {pR : Nat → Option FieldType} {pH : Nat → Option (List (Nat × Nat × Nat × Nat))} {pD : Nat → Nat × Nat}
variable {k pc pc' : Nat} {L L' : mLs} {st st' : List mV} {h h' : mH} {cells slots dc ds : Nat}
theorem mRet_ok {e1 : mE} {v : Option mV} (hk : mChk good nw strs cl ft P pY pC pR pH pD k pc e1)
    (F : mFr p s m args meth c (pC k) (pY k).cls (decide ((pY k).name = "<init>")) good D cl n0 b mt cA ft L0 xs strs nw) (hr : meth.sig.returnType = pR k) (hlocks : meth.locks = false)
    (hs : mstep P.2.2.2.1 P.2.2.2.2 e1 pc L st h = some (.inr (.inr (.inl v)))) :
    mK p l e R s m args below meth c (vx_MQ below (mQc D cl n0 b mt cA ft L0 xs (.inl v, h, cells, slots)) (mXC D cl n0 b mt cA ft L0 xs (.inl v, h, cells, slots)) args s cells slots (fun q => n0 ≤ q)) D cl n0 b mt cA ft L0 xs pc L st h cells slots := by
  obtain ⟨i, n, a, b', c'⟩ := e1
  obtain ⟨hd, hl, hk⟩ := hk
  unfold mTh at hk
  obtain ⟨hx, hb, hown, hts, -, -, hSt⟩ := F
  intro ls H locs hL hI hR hS hz
  have hend : ∀ t : State, t.heap = H → mEnd D cl n0 b mt cA ft L0 xs (.inl v, h, cells, slots) s t := fun t ht => ⟨hI, by rw [ht]; exact hR, hz, hS.F ht⟩
  cases i <;> simp only [mlen, beq_iff_eq] at hl <;> (try subst hl) <;> (try dsimp only at hd hk)
  case ireturn =>
    simp only [mstep, mi1] at hs
    split at hs
    · rename_i x r
      split at hs
      · rename_i hr0
        cases hs
        obtain ⟨rfl, hv⟩ := hr0
        rcases hk with ⟨h1, h2⟩ | ⟨h1, h2⟩
        · exact vx_ret (W.iret (v := Int32.ofInt x) hx hb (hr.trans h2) (fun t ht hW => ⟨⟨_, rfl, rfl⟩, hend t ht⟩) hS.2.2 hd hlocks)
        · refine vx_ret (W.zret (v := Int32.ofInt x) hx hb (hr.trans h2) ?_ (fun t ht hW => ⟨⟨_, rfl, rfl⟩, hend t ht⟩) hS.2.2 hd hlocks)
          rcases hv with hv | rfl | rfl
          · exact absurd hv h1
          · decide
          · decide
      · cases hs
    · cases hs
  case lreturn =>
    simp only [mstep] at hs
    split at hs
    · cases hs
      exact vx_ret (W.lret hx hb (hr.trans hk) (fun t ht hW => ⟨⟨_, rfl, rfl⟩, hend t ht⟩) hS.2.2 hd hlocks)
    · cases hs
  case areturn =>
    simp only [mstep] at hs
    split at hs
    · cases hs
      obtain ⟨nm, hk⟩ := hk
      exact vx_ret (W.aret hx hb (hr.trans hk) (Or.inl ⟨nm, rfl⟩) (Or.inr ⟨_, rfl⟩) (fun t ht hW => ⟨⟨_, rfl, rfl⟩, hend t ht⟩) hS.2.2 hd hlocks)
    · cases hs
  case return_ =>
    simp only [mstep] at hs
    split at hs
    · rename_i h0
      cases hs
      subst h0
      exact vx_ret (W.vret hx hb (hr.trans hk) (fun t ht hW => ⟨⟨_, rfl, rfl⟩, hend t ht⟩) hS.2.2 hd hlocks)
    · cases hs
  case newarray =>
    exfalso
    simp only [mstep, mi1, mnx, mpay, mnew] at hs
    repeat' split at hs
    all_goals cases hs
  case anewarray =>
    exfalso
    simp only [mstep, mi1, mnx, mpay, mnew] at hs
    repeat' split at hs
    all_goals cases hs
  case new =>
    exfalso
    simp only [mstep, mi1, mnx, mpay, mnew] at hs
    repeat' split at hs
    all_goals cases hs
  all_goals exfalso
  all_goals (try simp only [mstep, mcp, mci, mcj, mnx, mi1, mi2, mj2, mji, mp1, mix, mst, mif, mrd, mwr, mcall] at hs)
  all_goals (repeat' split at hs)
  all_goals cases hs
theorem mThrow_ok {e1 : mE} {E : Nat} (hOK : mOK good nw strs cl ft P pY pC pR pH pD) (hk : mChk good nw strs cl ft P pY pC pR pH pD k pc e1) (hl0 : l.stackTraces = false)
    (F : mFr p s m args meth c (pC k) (pY k).cls (decide ((pY k).name = "<init>")) good D cl n0 b mt cA ft L0 xs strs nw) (hlocks : meth.locks = false) (hRf : (pD k).1 ≤ R.frames) (hRl : (pD k).2 ≤ R.locals) (hLn : L.length = c.maxLocals) (htab : pH k = none → ∀ x ∈ c.exceptionTable.toList, False)
    (hrc : cells + 1 ≤ R.cells) (hrs : slots + 6 ≤ R.slots)
    (hs : mstep P.2.2.2.1 P.2.2.2.2 e1 pc L st h = some (.inr (.inr (.inr E)))) :
    mK p l e R s m args below meth c (vx_MQ below (mQc D cl n0 b mt cA ft L0 xs (.inr E, (h.1, h.2.1, false), cells + 1, slots + 6)) (mXC D cl n0 b mt cA ft L0 xs (.inr E, (h.1, h.2.1, false), cells + 1, slots + 6)) args s (cells + 1) (slots + 6) (fun q => n0 ≤ q)) D cl n0 b mt cA ft L0 xs pc L st h cells slots := by
  obtain ⟨hgw, hnw, -⟩ := hOK
  obtain ⟨i, n, a, b', c'⟩ := e1
  obtain ⟨hd, hl, hk⟩ := hk
  unfold mTh at hk
  obtain ⟨hx, hb, hown, hts, -, -, hSt⟩ := F
  intro ls H locs hL hI hR hS hz
  cases i <;> simp only [mlen, beq_iff_eq] at hl <;> (try subst hl) <;> (try dsimp only at hd hk)
  case new idx =>
    by_cases hb1 : b' = 1
    · simp only [mstep, if_pos hb1] at hs
      split at hs
      · rename_i hst
        cases hs
        subst hst
        rw [if_pos hb1] at hk
        obtain ⟨hE, hH, hf5, hl90, hcl, hin, d3, is, ic, text, hstr, hat, hform⟩ := hk
        obtain ⟨g1, g2, g3, g4, hU, hN, g7, g8, g9, g10, g11, g12, g13, g14⟩ := hSt
        obtain ⟨sa, hsa⟩ := g10 _ hstr
        have hcov : ∀ (pc9 : Nat), ∀ x ∈ c.exceptionTable.toList, covers x pc9 = false := fun pc9 x hx9 => absurd (htab hH x hx9) id
        have hfit : Bundle.fit (pE E) = true := by
          rcases (show E = 0 ∨ E = 1 ∨ E = 2 by omega) with rfl | rfl | rfl <;> decide
        have hnames : ∀ n ∈ mThr, Bundle.fit n = true := by decide
        have hat2 : ∀ w ∈ vx_atS (pY k).cls ic (pE E) mThr, w.before args s = true := fun w hw => by
          rcases hat w hw with h1 | rfl | h1
          · exact hts _ h1
          · exact va_Nw.use rfl (g13 E hE)
          · exact va_Nw.use (hnw w h1).tab (g11 w h1)
        have hgood : ∀ w ∈ Cond.classLink (pY k).cls idx (pE E) :: Cond.initialized (pE E) :: vx_atS (pY k).cls ic (pE E) mThr, vx_ot w = true := by
          intro w hw
          have hgg : ∀ w, w ∈ good → vx_ot w = true := fun w hw => by unfold vx_ot; rw [hgw w hw]; simp
          rcases List.mem_cons.mp hw with rfl | hw
          · exact hgg _ hcl
          · rcases List.mem_cons.mp hw with rfl | hw
            · exact hgg _ hin
            · rcases hat w hw with h1 | rfl | h1
              · exact hgg _ h1
              · rfl
              · unfold vx_ot; rw [(hnw w h1).tab]; rfl
        have hXC : ∀ t : State, s.vm.Alike t.vm → H.size ≤ t.heap.size → (∀ q : Nat, q < H.size → t.heap[q]? = H[q]?) → mXC D cl n0 b mt cA ft L0 xs (.inr E, (h.1, h.2.1, false), cells + 1, slots + 6) (pE E) s t := by
          intro t hA hsz hk9
          refine ⟨⟨E, rfl, rfl⟩, hI, ⟨hR.1.kept fun k9 q9 hq9 => hk9 _ (hR.1 k9 q9 hq9).lt, hR.2⟩, (fun hf => by cases hf), Nat.le_trans hS.1 hsz, fun q9 h1 h2 => ?_⟩
          rw [hk9 q9 (Nat.lt_of_lt_of_le h1 hS.1)]
          exact hS.2.1 q9 h1 h2
        have hsz : ls.size = c.maxLocals := by rw [← hLn]; exact hL.1
        rcases hform with ⟨d4, d6, d9⟩ | ⟨d4, d7, d10⟩
        · exact vx_throwS (own := (pY k).cls) (cls := pE E) (text := text) (names := mThr) (rest := []) (ls := ls) (A := fun q => n0 ≤ q) hx hb hl0 hown hfit hnames (hts _ hcl) (hts _ hin) hsa hat2 hgood hU hN hS hsz hd d3 d4 d6 d9 (hcov _) (by show 2 + 3 < R.frames; omega) (by show 0 + (13 * (2 + 1) + 43) ≤ R.locals; omega) hrc hrs hlocks hXC hS.2.2 (Nat.le_refl _) (Nat.le_refl _)
        · exact vx_throwSW (own := (pY k).cls) (cls := pE E) (text := text) (names := mThr) (rest := []) (ls := ls) (A := fun q => n0 ≤ q) hx hb hl0 hown hfit hnames (hts _ hcl) (hts _ hin) hsa hat2 hgood hU hN hS hsz hd d3 d4 d7 d10 (hcov _) (by show 2 + 3 < R.frames; omega) (by show 0 + (13 * (2 + 1) + 43) ≤ R.locals; omega) hrc hrs hlocks hXC hS.2.2 (Nat.le_refl _) (Nat.le_refl _)
      · cases hs
    · exfalso
      simp only [mstep, mi1, mnx, mpay, mnew, if_neg hb1] at hs
      repeat' split at hs
      all_goals cases hs
  case newarray =>
    exfalso
    simp only [mstep, mi1, mnx, mpay, mnew] at hs
    repeat' split at hs
    all_goals cases hs
  case anewarray =>
    exfalso
    simp only [mstep, mi1, mnx, mpay, mnew] at hs
    repeat' split at hs
    all_goals cases hs
  all_goals exfalso
  all_goals (try simp only [mstep, mcp, mci, mcj, mnx, mi1, mi2, mj2, mji, mp1, mix, mst, mif, mrd, mwr, mcall] at hs)
  all_goals (repeat' split at hs)
  all_goals cases hs
/-- a call, at its place -/
theorem mCall_ok {e1 : mE} {k' : Nat} {as rest : List mV} {rc : mR} (hOK : mOK good nw strs cl ft P pY pC pR pH pD) (hk : mChk good nw strs cl ft P pY pC pR pH pD k pc e1)
    (F : mFr p s m args meth c (pC k) (pY k).cls (decide ((pY k).name = "<init>")) good D cl n0 b mt cA ft L0 xs strs nw) (hRf : (pD k).1 ≤ R.frames) (hRl : (pD k).2 ≤ R.locals) (hLn : L.length = c.maxLocals)
    (hs : mstep P.2.2.2.1 P.2.2.2.2 e1 pc L st h = some (.inr (.inl (k', as, rest)))) (hrc : cells + rc.2.2.1 ≤ R.cells) (hrs : slots + rc.2.2.2 ≤ R.slots) (hflag : rc.2.1.2.2 = true → h.2.2 = true)
    (hthr : ∀ i, rc.1 = .inr i → ∀ q, P.2.1 k pc i = some q → P.1 k q.1 ≠ none)
    (hM : (∀ v ∈ as, mis1 v = true) → as.length ≤ P.2.2.1 k' → vx_Met l (pY k') (mwd (pY k') (pC k') (P.2.2.1 k') (pR k') (pH k') :: good) { frames := (pD k').1, locals := (pD k').2, cells := rc.2.2.1, slots := rc.2.2.2 } (mPc D cl n0 b mt cA ft L0 xs strs nw h as) (mQc D cl n0 b mt cA ft L0 xs rc) (mXC D cl n0 b mt cA ft L0 xs rc) rc.2.2.1 rc.2.2.2 (fun q => n0 ≤ q))
    (kx : ∀ (i : Nat) (ls : Array Slot) (H1 : Heap) (locs1 : List Loc) (q : Addr) (ce : Cell), rc.1 = .inr i → mLR (mad n0 b mt) L ls → mI0 L0 xs rc.2.1 → mRel D cl n0 (mad n0 b mt) cA ft rc.2.1 H1 → va_S (fun q => n0 ≤ q) s.heap H1 locs1 → (rc.2.1.2.2 = true → s.heap.size + (cells + rc.2.2.1) = n0 + (rc.2.1.1.length - 2)) → H1[q]? = some ce → ce.vm = .none → s.vm.findClass (pE i) = some ce.cls →
      vx_W p l e R s m args below meth c H1 locs1 (cells + rc.2.2.1) (slots + rc.2.2.2) Q (F0 m pc ls (rest.map (menc (mad n0 b mt)))) q)
    (kk : ∀ v, rc.1 = .inl v → mK p l e R s m args below meth c Q D cl n0 b mt cA ft L0 xs (pc + 3) L (v.toList ++ rest) rc.2.1 (cells + rc.2.2.1) (slots + rc.2.2.2)) :
    mK p l e R s m args below meth c Q D cl n0 b mt cA ft L0 xs pc L st h cells slots := by
  obtain ⟨hgw, hnw, -⟩ := hOK
  obtain ⟨i, n, a, b', c'⟩ := e1
  obtain ⟨hd, hl, hk⟩ := hk
  unfold mTh at hk
  intro ls H locs hL hI hR hS hz
  refine W.size (fun hup => ?_)
  have hlow := mRel_size hR (Nat.le_trans F.2.2.2.2.2.2.2.2.2.2.2.2.2.1 hS.1)
  have hz1 : h.2.2 = true → H.size = n0 + (h.1.length - 2) := fun hf => by have := hz hf; omega
  have hz2 : rc.2.1.2.2 = true → s.heap.size + cells = H.size := fun hf => by have := hz (hflag hf); have := hz1 (hflag hf); omega
  have hsz : ls.size = c.maxLocals := by rw [← hLn]; exact hL.1
  have hnt : mNoT P k pc → ∀ i, rc.1 ≠ .inr i := fun hn i hi => by
    obtain ⟨q, h1, h2⟩ := hn i
    exact hthr i hi q h1 h2
  have done : ∀ (a : Array Value), vx_Run p l e R s m args below meth c H locs cells slots rc.2.2.1 rc.2.2.2 (F0 m pc ls (st.map (menc (mad n0 b mt)))) (rest.map (menc (mad n0 b mt))) (mQc D cl n0 b mt cA ft L0 xs rc a) (mXC D cl n0 b mt cA ft L0 xs rc) (fun q => n0 ≤ q) →
      W p l e R s m args below meth c H locs cells slots Q (F0 m pc ls (st.map (menc (mad n0 b mt)))) := by
    intro a hr
    refine mCall_use hr hS hz2 (fun i H1 locs1 q ce g1 g2 g3 g4 g5 g6 g7 g8 => kx i ls H1 locs1 q ce g1 hL g2 g3 g4 g5 g6 g7 g8) (fun v H1 locs1 g1 g2 g3 g4 g5 => ?_)
    have k8 := kk v g1 ls H1 locs1 hL g2 g3 g4 g5
    cases v with
    | none => exact k8
    | some v => exact k8
  cases i <;> simp only [mlen, beq_iff_eq] at hl <;> (try subst hl) <;> (try dsimp only at hd hk)
  case invokestatic idx =>
    simp only [mstep, mcall] at hs
    split at hs
    · rename_i hr
      cases hs
      obtain ⟨⟨q1, q2, q3, q4, q5, q6, q7⟩, q8, q9⟩ := hk
      have hmis : ∀ v ∈ (st.take b').reverse, mis1 v = true := fun v hv => List.all_eq_true.mp hr.2.1 v (List.mem_reverse.mp hv)
      have hlen : ((st.take b').reverse).length ≤ P.2.2.1 k' := by simp; omega
      rcases q9 with q9 | ⟨q9, q10, host, q11⟩
      · exact done _ (mCall_S (host := "") F hgw hnw (hM hmis hlen) (by omega) (by omega) q4 q5 q6 q7 (Or.inl q9) q8 hd hr.1 hr.2.2 hR hI hS hz1 hsz hrc hrs)
      · exact done _ (mCall_S (host := host) F hgw hnw (hM hmis hlen) (by omega) (by omega) q4 q5 q6 q7 (Or.inr ⟨q9, q11, hnt q10⟩) q8 hd hr.1 hr.2.2 hR hI hS hz1 hsz hrc hrs)
    · cases hs
  case invokevirtual idx =>
    simp only [mstep, mcall] at hs
    split at hs
    · rename_i hob
      split at hs
      · rename_i hr
        cases hs
        obtain ⟨⟨q1, q2, q3, q4, q5, q6, q7⟩, q8, q9, q10, q11, q, q12, q13⟩ := hk
        have hmis : ∀ v ∈ (st.take (b' + 1)).reverse, mis1 v = true := fun v hv => List.all_eq_true.mp hr.2.1 v (List.mem_reverse.mp hv)
        have hlen : ((st.take (b' + 1)).reverse).length ≤ P.2.2.1 k' := by simp; omega
        have hM' := hM hmis hlen
        rw [q8] at hM' q4
        exact done _ (mCall_V F hgw hnw hM' (by omega) (by omega) q4 q5 q6 q7 q9 q10 q11 q12 q13 hd hob hr.2.2 hR hI hS hz1 hsz hrc hrs)
      · cases hs
    · cases hs
  case invokespecial idx =>
    by_cases hc9 : c' = 99
    · exfalso
      simp only [mstep, mp1, mnx, if_pos hc9] at hs
      repeat' split at hs
      all_goals cases hs
    · rw [if_neg hc9] at hk
      simp only [mstep, mcall, if_neg hc9] at hs
      split at hs
      · rename_i o ho
        split at hs
        · rename_i hr
          cases hs
          obtain ⟨⟨q1, q2, q3, q4, q5, q6, q7⟩, q8, q9, q10, q11, q12, q13⟩ := hk
          have hmis : ∀ v ∈ (st.take (b' + 1)).reverse, mis1 v = true := fun v hv => List.all_eq_true.mp hr.2.1 v (List.mem_reverse.mp hv)
          have hlen : ((st.take (b' + 1)).reverse).length ≤ P.2.2.1 k' := by simp; omega
          have hM' := hM hmis hlen
          rw [q8, q9] at hM' q4
          rcases q13 with q13 | ⟨host, q13⟩
          · exact done _ (mCall_I (host := "") F hgw hnw hM' (hnt q10) (by omega) (by omega) q4 q5 q6 q7 (Or.inl q13) q11 q12 hd ho hr.2.2 hR hI hS hz1 hsz hrc hrs)
          · exact done _ (mCall_I (host := host) F hgw hnw hM' (hnt q10) (by omega) (by omega) q4 q5 q6 q7 (Or.inr q13) q11 q12 hd ho hr.2.2 hR hI hS hz1 hsz hrc hrs)
        · cases hs
      · cases hs
  case newarray =>
    exfalso
    simp only [mstep, mi1, mnx, mpay, mnew] at hs
    repeat' split at hs
    all_goals cases hs
  case anewarray =>
    exfalso
    simp only [mstep, mi1, mnx, mpay, mnew] at hs
    repeat' split at hs
    all_goals cases hs
  case new =>
    exfalso
    simp only [mstep, mi1, mnx, mpay, mnew] at hs
    repeat' split at hs
    all_goals cases hs
  all_goals exfalso
  all_goals (try simp only [mstep, mcp, mci, mcj, mnx, mi1, mi2, mj2, mji, mp1, mix, mst, mif, mrd, mwr, mcall] at hs)
  all_goals (repeat' split at hs)
  all_goals cases hs
end SIM2
