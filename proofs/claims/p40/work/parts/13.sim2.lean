/-! The simulation: what the small machine runs, the machine runs. -/
section MOF
variable {l : Launch}
theorem mOfW {y : MethodName} {ws ws' : List Cond} {rm : Room} {Pc : Array Value → State → Prop} {Qc : Array Value → State → Outcome → State → Prop} {XC : String → State → State → Prop} {mc ms : Nat} {free : Addr → Prop} {cc : ByteArray} {maxL : Nat} {ret : Option FieldType}
    (hy : plainFor y = true) (hw : ws = Cond.code y cc maxL ret :: ws')
    (body : ∀ p e s m args below meth c s₁, BodyLoose p l y (headSpec ws rm) cc maxL ret e s m args below meth c s₁ → c.maxLocals = maxL → (∀ x ∈ c.exceptionTable.toList, False) → Pc args s →
      W p l e (headSpec ws rm).room s m args below meth c s.heap [] 0 0 (vx_MQ below Qc XC args s mc ms free) (entryFrame m args maxL)) : vx_Met l y ws rm Pc Qc XC mc ms free := by
  refine MetFree.of_bodySF (code := cc) (maxLocals := maxL) (ret := ret) hy ?_ ?_
  · intro args s m h hn
    obtain ⟨meth, c, h1, h2, h3, h4, h5, h6, -, -⟩ := Cond.code_spec hn (atoms_spec (ws := ws) h _ (by rw [hw]; exact List.mem_cons_self))
    exact ⟨meth, c, h1, h2, h3, h4, h5, h6⟩
  · intro p e s m args below meth c s₁ B hml hP _
    have hh0 : s₁.heap = s.heap := by rw [B.state]; rfl
    have ht : ∀ x ∈ c.exceptionTable.toList, False := by
      obtain ⟨meth9, c9, h1, h2, -, -, -, -, h7, -⟩ := Cond.code_spec B.named (atoms_spec (ws := ws) B.pre _ (by rw [hw]; exact List.mem_cons_self))
      cases Option.some.inj (h1.symm.trans B.method)
      cases Option.some.inj (h2.symm.trans (Stand.of_body B).code)
      intro x hx
      rw [Array.isEmpty_iff.mp h7] at hx
      cases hx
    obtain ⟨t, a1, o, b1, b2, b3⟩ := body p e s m args below meth c s₁ B hml ht hP s₁ hh0 (Stand.of_body B)
    exact ⟨t, o, a1, b1, b2, b3⟩
theorem mOfWH {y : MethodName} {ws ws' : List Cond} {rm : Room} {Pc : Array Value → State → Prop} {Qc : Array Value → State → Outcome → State → Prop} {XC : String → State → State → Prop} {mc ms : Nat} {free : Addr → Prop} {cc : ByteArray} {maxL : Nat} {ret : Option FieldType} {hh : List (Nat × Nat × Nat × Nat)}
    (hy : plainFor y = true) (hw : ws = Cond.codeWith y cc maxL ret hh :: ws')
    (body : ∀ p e s m args below meth c s₁, BodyLoose p l y (headSpec ws rm) cc maxL ret e s m args below meth c s₁ → c.maxLocals = maxL → Pc args s →
      W p l e (headSpec ws rm).room s m args below meth c s.heap [] 0 0 (vx_MQ below Qc XC args s mc ms free) (entryFrame m args maxL)) : vx_Met l y ws rm Pc Qc XC mc ms free := by
  refine MetFree.of_bodySF (code := cc) (maxLocals := maxL) (ret := ret) hy ?_ ?_
  · intro args s m h hn
    obtain ⟨m9, meth, c, hn9, h1, h2, h3, h4, -, h5, h6, -⟩ := Cond.codeWith_spec (atoms_spec (ws := ws) h _ (by rw [hw]; exact List.mem_cons_self))
    cases hn.symm.trans hn9
    exact ⟨meth, c, h1, h2, h3, h4, h5, h6⟩
  · intro p e s m args below meth c s₁ B hml hP _
    have hh0 : s₁.heap = s.heap := by rw [B.state]; rfl
    obtain ⟨t, a1, o, b1, b2, b3⟩ := body p e s m args below meth c s₁ B hml hP s₁ hh0 (Stand.of_body B)
    exact ⟨t, o, a1, b1, b2, b3⟩
end MOF
section SIM3
variable {p : Program} {l : Launch} {e : Env} {R : Room} {s : State} {m : MethodId} {args : Array Value} {below : List Frame} {meth : Method} {c : Code} {Q : State → Prop}
variable {good nw : List Cond} {D : va_G} {cl : List vw_C} {n0 b mt : Nat} {cA : Nat → ClassId} {ft : Nat → Nat → Nat} {L0 : Nat} {xs : Nat → Int32} {strs : List (String × Nat × String)}
variable {P : mProg} {pY : Nat → MethodName} {pC : Nat → ByteArray} {pR : Nat → Option FieldType} {pH : Nat → Option (List (Nat × Nat × Nat × Nat))} {pD : Nat → Nat × Nat}
/-- the contract of a method's run -/
def mMet (good nw : List Cond) (D : va_G) (cl : List vw_C) (n0 b mt : Nat) (cA : Nat → ClassId) (ft : Nat → Nat → Nat) (L0 : Nat) (xs : Nat → Int32) (strs : List (String × Nat × String)) (P : mProg) (pY : Nat → MethodName) (pC : Nat → ByteArray) (pR : Nat → Option FieldType) (pH : Nat → Option (List (Nat × Nat × Nat × Nat))) (pD : Nat → Nat × Nat) (l : Launch) (k : Nat) (vs : List mV) (h : mH) (r : mR) : Prop :=
  vx_Met l (pY k) (mwd (pY k) (pC k) (P.2.2.1 k) (pR k) (pH k) :: good) { frames := (pD k).1, locals := (pD k).2, cells := r.2.2.1, slots := r.2.2.2 } (mPc D cl n0 b mt cA ft L0 xs strs nw h vs) (mQc D cl n0 b mt cA ft L0 xs r) (mXC D cl n0 b mt cA ft L0 xs r) r.2.2.1 r.2.2.2 (fun q => n0 ≤ q)
/-- a body, from any of its places -/
theorem mBody (hOK : mOK good nw strs cl ft P pY pC pR pH pD) (hl0 : l.stackTraces = false) {k : Nat} {r : mR} {R : Room} (hRf : (pD k).1 ≤ R.frames) (hRl : (pD k).2 ≤ R.locals) (hRc : r.2.2.1 ≤ R.cells) (hRs : r.2.2.2 ≤ R.slots)
    (F : mFr p s m args meth c (pC k) (pY k).cls (decide ((pY k).name = "<init>")) good D cl n0 b mt cA ft L0 xs strs nw) (hr : meth.sig.returnType = pR k) (hlocks : meth.locks = false)
    (htab : (pH k = none → ∀ x ∈ c.exceptionTable.toList, False) ∧ ∀ hh, pH k = some hh → c.exceptionTable.toList = tableOf hh) (hml : c.maxLocals = P.2.2.1 k)
    {N : Nat} (hIH : ∀ f, f < N → ∀ (k' : Nat) (vs : List mV) (h : mH) (rc : mR), mrun P f k' 0 (mentry vs (P.2.2.1 k')) [] h = some rc → (∀ v ∈ vs, mis1 v = true) → vs.length ≤ P.2.2.1 k' → mMet good nw D cl n0 b mt cA ft L0 xs strs P pY pC pR pH pD l k' vs h rc) :
    ∀ f, f ≤ N → ∀ (pc : Nat) (L : mLs) (st : List mV) (h : mH) (r2 : mR) (cells slots : Nat), mrun P f k pc L st h = some r2 → r2.1 = r.1 → r2.2.1 = r.2.1 → cells + r2.2.2.1 = r.2.2.1 → slots + r2.2.2.2 = r.2.2.2 → L.length = c.maxLocals →
      mK p l e R s m args below meth c (vx_MQ below (mQc D cl n0 b mt cA ft L0 xs r) (mXC D cl n0 b mt cA ft L0 xs r) args s r.2.2.1 r.2.2.2 (fun q => n0 ≤ q)) D cl n0 b mt cA ft L0 xs pc L st h cells slots := by
  intro f
  induction f with
  | zero => intro _ pc L st h r2 cells slots hm; cases hm
  | succ f ih =>
    intro hfN pc L st h r2 cells slots hm e1 e2 e3 e4 hLn
    unfold mrun at hm
    split at hm
    · cases hm
    · rename_i e9 he9
      have hk := hOK.2.2.2.1 k pc e9 he9
      split at hm
      · cases hm
      · rename_i pc' L' st' h' dc ds hs
        unfold mbump at hm
        split at hm
        · rename_i o h2 c' s' h1
          cases hm
          refine mStep_ok hOK hk F hRf hRl hLn hs (Nat.le_trans (by rw [← e3]; show _ ≤ cells + (dc + c'); omega) hRc) (Nat.le_trans (by rw [← e4]; show _ ≤ slots + (ds + s'); omega) hRs) ?_
          exact ih (by omega) pc' L' st' h' (o, h2, c', s') (cells + dc) (slots + ds) h1 e1 e2 (by rw [← e3]; show cells + dc + c' = cells + (dc + c'); omega) (by rw [← e4]; show slots + ds + s' = slots + (ds + s'); omega) (by rw [(mstep_len hs).1]; exact hLn)
        · cases hm
      · rename_i k' as rest hs
        split at hm
        · cases hm
        · rename_i v h1 c' s' hc
          unfold mbump at hm
          split at hm
          · rename_i o h2 c2 s2 h3
            cases hm
            refine mCall_ok (rc := (.inl v, h1, c', s')) hOK hk F hRf hRl hLn hs (Nat.le_trans (by rw [← e3]; show cells + c' ≤ cells + (c' + c2); omega) hRc) (Nat.le_trans (by rw [← e4]; show slots + s' ≤ slots + (s' + s2); omega) hRs) (mrun_flag _ _ _ _ _ _ _ hc) (fun i hi => by cases hi) (fun g1 g2 => hIH f (by omega) k' as h _ hc g1 g2) (fun i _ _ _ _ _ hi => by cases hi) (fun v' hv' => ?_)
            cases hv'
            exact ih (by omega) (pc + 3) L _ h1 (o, h2, c2, s2) (cells + c') (slots + s') h3 e1 e2 (by rw [← e3]; show cells + c' + c2 = cells + (c' + c2); omega) (by rw [← e4]; show slots + s' + s2 = slots + (s' + s2); omega) hLn
          · cases hm
        · rename_i E h1 c' s' hc
          split at hm
          · rename_i hcat
            cases hm
            have e3' : cells + c' = r.2.2.1 := e3
            have e4' : slots + s' = r.2.2.2 := e4
            refine mCall_ok (rc := (.inr E, h1, c', s')) hOK hk F hRf hRl hLn hs (Nat.le_trans (by rw [← e3]; exact Nat.le_refl _) hRc) (Nat.le_trans (by rw [← e4]; exact Nat.le_refl _) hRs) (mrun_flag _ _ _ _ _ _ _ hc) (fun i hi q hq => by cases hi; rw [hcat] at hq; cases hq) (fun g1 g2 => hIH f (by omega) k' as h _ hc g1 g2) (fun i ls H1 locs1 q ce hi g1 g2 g3 g4 g5 g6 g7 g8 => ?_) (fun v' hv' => by cases hv')
            cases hi
            have hH := (hOK.2.2.2.2.1 k pc E).1 hcat
            refine vx_out (fun x hx9 => absurd (htab.1 hH x hx9) id) hlocks g6 g7 g8 (fun t ht hA => ⟨⟨E, e1.symm, rfl⟩, by rw [← e2]; exact g2, by rw [← e2, ht]; exact g3, fun hf => ?_, g4.F ht⟩) g4.2.2 (by show cells + c' ≤ _; omega) (by show slots + s' ≤ _; omega)
            rw [← e2] at hf ⊢
            rw [← e3']
            exact g5 hf
          · rename_i pc' i hcat
            split at hm
            · rename_i hmok
              unfold mbump at hm
              split at hm
              · rename_i o h2 c2 s2 h3
                cases hm
                have hne : P.1 k pc' ≠ none := by
                  intro h9
                  cases f with
                  | zero => cases h3
                  | succ f =>
                    unfold mrun at h3
                    rw [h9] at h3
                    cases h3
                rcases (hOK.2.2.2.2.1 k pc E).2 _ hcat with h9 | ⟨hE, hh, pre, x, suf, hH, htb, hpre, hcov, hx0, hlink, hi9, hform⟩
                · exact absurd h9 hne
                · refine mCall_ok (rc := (.inr E, h1, c', s')) hOK hk F hRf hRl hLn hs (Nat.le_trans (by rw [← e3]; show cells + c' ≤ cells + (c' + c2); omega) hRc) (Nat.le_trans (by rw [← e4]; show slots + s' ≤ slots + (s' + s2); omega) hRs) (mrun_flag _ _ _ _ _ _ _ hc) (fun i9 hi q hq => by cases hi; rw [hcat] at hq; cases hq; exact hne) (fun g1 g2 => hIH f (by omega) k' as h _ hc g1 g2) (fun i9 ls H1 locs1 q ce hi g1 g2 g3 g4 g5 g6 g7 g8 => ?_) (fun v' hv' => by cases hv')
                  cases hi
                  obtain ⟨hx, hb, hown, hts, -, -, hSt⟩ := F
                  have hNc := hSt.2.2.2.2.2.2.2.2.2.2.2.2.2
                  have hCa := hSt.2.2.2.2.2.2.2.2.2.2.2.2.1
                  refine vx_catch hown pre x suf ((htab.2 hh hH).trans htb) (fun z hz => Or.inr ?_) hcov hx0 (hts _ hlink) (va_Nw.use rfl (hCa E hE)) g6 g7 g8 ?_
                  · obtain ⟨q1, j, q2, q3, q4⟩ := hpre z hz
                    exact ⟨q1, pE j, hts _ q4, hNc E j hE q2 q3⟩
                  · have hkk : ∀ ls', lv_has ls' L.length ((i, .ref q) :: (mlv (mad n0 b mt) L).filter (fun q => !(q.1 == i) && !(q.1 + 1 == i && q.2.category == 2))) → W p l e R s m args below meth c H1 locs1 (cells + c') (slots + s') (vx_MQ below (mQc D cl n0 b mt cA ft L0 xs r) (mXC D cl n0 b mt cA ft L0 xs r) args s r.2.2.1 r.2.2.2 (fun q => n0 ≤ q)) (F0 m pc' ls' []) := fun ls' hls' =>
                      ih (by omega) pc' (L.set i none) [] h1 (o, h2, c2, s2) (cells + c') (slots + s') h3 e1 e2 (by rw [← e3]; show cells + c' + c2 = cells + (c' + c2); omega) (by rw [← e4]; show slots + s' + s2 = slots + (s' + s2); omega) (by rw [List.length_set]; exact hLn) ls' H1 locs1 (mLR.drop g1 hmok hls') g2 g3 g4 g5
                    have hi8 : i < L.length := by rw [hLn, hml]; exact hi9
                    rcases hform with ⟨i4, q1, q2, q3⟩ | ⟨q2, q3⟩
                    · subst q3
                      exact lv_astore_n hx hb q2 q1 g1.has hi8 rfl fun ls' hls' => hkk ls' hls'
                    · subst q3
                      exact lv_astore hx hb q2 g1.has hi8 rfl fun ls' hls' => hkk ls' hls'
              · cases hm
            · cases hm
      · rename_i v hs
        cases hm
        have e3' : cells = r.2.2.1 := e3
        have e4' : slots = r.2.2.2 := e4
        have hrr : r = (.inl v, h, cells, slots) := by
          obtain ⟨r1, r2, r3, r4⟩ := r
          cases e1; cases e2; cases e3'; cases e4'; rfl
        rw [hrr]
        exact mRet_ok hk F hr hlocks hs
      · rename_i E hs
        cases hm
        have e3' : cells + 1 = r.2.2.1 := e3
        have e4' : slots + 6 = r.2.2.2 := e4
        have hrr : r = (.inr E, (h.1, h.2.1, false), cells + 1, slots + 6) := by
          obtain ⟨r1, r2, r3, r4⟩ := r
          cases e1; cases e2; cases e3'; cases e4'; rfl
        rw [hrr]
        exact mThrow_ok hOK hk hl0 F hlocks hRf hRl hLn htab.1 (Nat.le_trans (Nat.le_of_eq e3') hRc) (Nat.le_trans (Nat.le_of_eq e4') hRs) hs
theorem mSim (hOK : mOK good nw strs cl ft P pY pC pR pH pD) (hl0 : l.stackTraces = false) : ∀ f (k : Nat) (vs : List mV) (h : mH) (r : mR), mrun P f k 0 (mentry vs (P.2.2.1 k)) [] h = some r → (∀ v ∈ vs, mis1 v = true) → vs.length ≤ P.2.2.1 k → mMet good nw D cl n0 b mt cA ft L0 xs strs P pY pC pR pH pD l k vs h r := by
  intro f
  induction f using Nat.strongRecOn with
  | _ f ihf =>
    intro k vs h r hm hmis hlen
    have hpl : plainFor (pY k) = true := by
      cases f with
      | zero => cases hm
      | succ f =>
        unfold mrun at hm
        split at hm
        · cases hm
        · rename_i e9 he9
          exact hOK.2.2.2.2.2.1 k 0 e9 he9
    have hL0 : (mentry vs (P.2.2.1 k)).length = P.2.2.1 k := by
      unfold mentry
      simp
      omega
    have body : ∀ (p : Program) (e : Env) (s : State) (m : MethodId) (args : Array Value) (below : List Frame) (meth : Method) (c : Code) (s₁ : State), BodyLoose p l (pY k) (headSpec (mwd (pY k) (pC k) (P.2.2.1 k) (pR k) (pH k) :: good) { frames := (pD k).1, locals := (pD k).2, cells := r.2.2.1, slots := r.2.2.2 }) (pC k) (P.2.2.1 k) (pR k) e s m args below meth c s₁ → c.maxLocals = P.2.2.1 k →
        ((pH k = none → ∀ x ∈ c.exceptionTable.toList, False) ∧ ∀ hh, pH k = some hh → c.exceptionTable.toList = tableOf hh) → mPc D cl n0 b mt cA ft L0 xs strs nw h vs args s →
        W p l e { frames := (pD k).1, locals := (pD k).2, cells := r.2.2.1, slots := r.2.2.2 } s m args below meth c s.heap [] 0 0 (vx_MQ below (mQc D cl n0 b mt cA ft L0 xs r) (mXC D cl n0 b mt cA ft L0 xs r) args s r.2.2.1 r.2.2.2 (fun q => n0 ≤ q)) (entryFrame m args (P.2.2.1 k)) := by
      intro p e s m args below meth c s₁ B hml htab hP
      obtain ⟨ha, hI, hR, hSt, hz⟩ := hP
      have hts := atoms_spec (ws := mwd (pY k) (pC k) (P.2.2.1 k) (pR k) (pH k) :: good) B.pre
      have hown : s.vm.findClass (pY k).cls = some m.cls := findClass_of_methodNamed B.named
      have F : mFr p s m args meth c (pC k) (pY k).cls (decide ((pY k).name = "<init>")) good D cl n0 b mt cA ft L0 xs strs nw := ⟨B.exec, B.bytes, hown, fun w hw => hts w (List.mem_cons_of_mem _ hw), fun hi => ((name_of_methodNamed B.named B.method).1).trans (of_decide_eq_true hi), hOK.2.2.1, hSt⟩
      obtain ⟨ls, hent, hLR⟩ := mLR.entry (ad := mad n0 b mt) (m := m) (vs := vs) (n := P.2.2.1 k) hmis hlen
      rw [ha, hent]
      rw [ha] at F
      exact mBody (e := e) (below := below) hOK hl0 (Nat.le_refl _) (Nat.le_refl _) (Nat.le_refl _) (Nat.le_refl _) F B.returns B.notSynchronized htab hml (N := f) (fun f' hf' k' vs' h' rc h1 h2 h3 => ihf f' hf' k' vs' h' rc h1 h2 h3) f (Nat.le_refl f) 0 (mentry vs (P.2.2.1 k)) [] h r 0 0 hm rfl rfl (Nat.zero_add _) (Nat.zero_add _) (by rw [hL0, hml]) ls s.heap [] hLR hI hR va_S.rf (fun hf => by rw [Nat.add_zero]; exact hz hf)
    unfold mMet
    cases hH : pH k with
    | none =>
      rw [hH] at body
      refine mOfW (cc := pC k) (maxL := P.2.2.1 k) (ret := pR k) hpl rfl ?_
      intro p e s m args below meth c s₁ B hml ht hP
      exact body p e s m args below meth c s₁ B hml ⟨fun _ => ht, fun hh h9 => by cases h9⟩ hP
    | some hh =>
      rw [hH] at body
      refine mOfWH (cc := pC k) (maxL := P.2.2.1 k) (ret := pR k) (hh := hh) hpl rfl ?_
      intro p e s m args below meth c s₁ B hml hP
      have hts := atoms_spec (ws := mwd (pY k) (pC k) (P.2.2.1 k) (pR k) (some hh) :: good) B.pre
      exact body p e s m args below meth c s₁ B hml ⟨(fun h9 => by cases h9), fun hh' h9 => by
        cases h9
        exact vx_table (x := pY k) B (hts _ List.mem_cons_self)⟩ hP
end SIM3
