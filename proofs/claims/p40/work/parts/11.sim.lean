/-! The small machine's runs are the machine's. -/
theorem mrun_flag {P : mProg} : ∀ (f k pc : Nat) (L : mLs) (st : List mV) (h : mH) (r : mR), mrun P f k pc L st h = some r → r.2.1.2.2 = true → h.2.2 = true := by
  intro f
  induction f with
  | zero => intro k pc L st h r hr; cases hr
  | succ f ih =>
    intro k pc L st h r hr hf
    unfold mrun at hr
    split at hr
    · cases hr
    · rename_i e he
      split at hr
      · cases hr
      · rename_i pc' L' st' h' dc ds hs
        unfold mbump at hr
        split at hr
        · rename_i o h2 c' s' h1
          cases hr
          exact (mstep_len hs).2 (ih _ _ _ _ _ _ h1 hf)
        · cases hr
      · rename_i k' as rest hs
        split at hr
        · cases hr
        · rename_i v h1 c' s' hc
          unfold mbump at hr
          split at hr
          · rename_i o h2 c2 s2 h3
            cases hr
            exact ih _ _ _ _ _ _ hc (ih _ _ _ _ _ _ h3 hf)
          · cases hr
        · rename_i E h1 c' s' hc
          split at hr
          · cases hr
            exact ih _ _ _ _ _ _ hc hf
          · split at hr
            · unfold mbump at hr
              split at hr
              · rename_i o h2 c2 s2 h3
                cases hr
                exact ih _ _ _ _ _ _ hc (ih _ _ _ _ _ _ h3 hf)
              · cases hr
            · cases hr
      · cases hr
        exact hf
      · cases hr
        cases hf
/-- a call's static facts -/
def mCk (good : List Cond) (pY : Nat → MethodName) (pC : Nat → ByteArray) (pN : Nat → Nat) (pR : Nat → Option FieldType) (pH : Nat → Option (List (Nat × Nat × Nat × Nat))) (pD : Nat → Nat × Nat) (k k' nn tot : Nat) : Prop :=
  tot ≤ pN k' ∧ (pD k').1 + 1 ≤ (pD k).1 ∧ 8 + (pN k' + 11) + (pD k').2 ≤ (pD k).2 ∧ mwd (pY k') (pC k') (pN k') (pR k') (pH k') ∈ good ∧ Cond.initialized (pY k').cls ∈ good ∧ ((pY k').cls ≠ "java/lang/invoke/MethodHandle" ∧ (pY k').cls ≠ "java/lang/invoke/VarHandle") ∧ ∀ sig, parseMethodDescriptor (pY k').desc = some sig → nn = sig.parameters.length
/-- nothing thrown at this place comes back -/
def mNoT (P : mProg) (k pc : Nat) : Prop := ∀ E, ∃ q, P.2.1 k pc E = some q ∧ P.1 k q.1 = none
def mThr : List String := ["java/lang/RuntimeException", "java/lang/Exception"]
def mTh (good nw : List Cond) (strs : List (String × Nat × String)) (cl : List vw_C) (ft : Nat → Nat → Nat) (P : mProg) (pY : Nat → MethodName) (pC : Nat → ByteArray) (pR : Nat → Option FieldType) (pH : Nat → Option (List (Nat × Nat × Nat × Nat))) (pD : Nat → Nat × Nat) (k pc : Nat) (e : mE) : Prop :=
  match e with
  | (.ldc x, _, a, _, _) => Cond.constant (pY k).cls x (Int32.ofInt a) ∈ good
  | (.ldc_w x, _, a, _, _) => Cond.constant (pY k).cls x (Int32.ofInt a) ∈ good
  | (.goto off, _, a, _, _) => (pc : Int) + off = (a : Int)
  | (.ifCond _ off, _, a, _, _) => (pc : Int) + off = (a : Int)
  | (.if_icmp _ off, _, a, _, _) => (pc : Int) + off = (a : Int)
  | (.getfield idx, _, a, b, c) => ∃ q, cl[a]? = some q ∧ b < q.2.2 ∧ Cond.fieldLink (pY k).cls idx (q.2.1 b).1 (q.2.1 b).2.1 (q.2.1 b).2.2.1 ∈ good ∧ ft a b = c
  | (.putfield idx, _, a, b, c) => ∃ q, cl[a]? = some q ∧ b < q.2.2 ∧ Cond.fieldLink (pY k).cls idx (q.2.1 b).1 (q.2.1 b).2.1 (q.2.1 b).2.2.1 ∈ good ∧ ft a b = c ∧ ((q.2.1 b).2.2.2 = false ∨ ((q.2.1 b).2.2.2 = true ∧ decide ((pY k).name = "<init>") = true ∧ (q.2.1 b).1 = (pY k).cls))
  | (.getstatic idx, _, _, _, _) => Cond.fieldLink (pY k).cls idx "Collationer" "MARK_CLASSES" "[I" ∈ good
  | (.aaload, _, a, _, _) => 2 < a ∧ a < 7
  | (.aastore, _, a, b, _) => 2 < a ∧ a < 7 ∧ ∃ q, cl[b]? = some q ∧ mky a = .object q.1
  | (.newarray t, _, _, _, _) => Cond.arrayClass (newarray.typeOf t) ∈ good
  | (.anewarray idx, _, a, _, _) => 2 < a ∧ a < 7 ∧ ∃ C, mky a = .object C ∧ Cond.classLink (pY k).cls idx C ∈ good
  | (.new idx, _, a, b, _) => if b = 1 then (a < 3 ∧ pH k = none ∧ 5 < (pD k).1 ∧ 90 ≤ (pD k).2 ∧ Cond.classLink (pY k).cls idx (pE a) ∈ good ∧ Cond.initialized (pE a) ∈ good ∧ decode (pC k) (pc + 3) = .ok (.dup, 1) ∧ ∃ is ic text, ((pY k).cls, is, text) ∈ strs ∧
      (∀ w ∈ vx_atS (pY k).cls ic (pE a) mThr, w ∈ good ∨ w = .castable (pE a) (pE a) ∨ w ∈ nw) ∧
      ((decode (pC k) (pc + 4) = .ok (.ldc is, 2) ∧ decode (pC k) (pc + 6) = .ok (.invokespecial ic, 3) ∧ decode (pC k) (pc + 9) = .ok (.athrow, 1)) ∨ (decode (pC k) (pc + 4) = .ok (.ldc_w is, 3) ∧ decode (pC k) (pc + 7) = .ok (.invokespecial ic, 3) ∧ decode (pC k) (pc + 10) = .ok (.athrow, 1))))
    else ∃ q, cl[a]? = some q ∧ Cond.classLink (pY k).cls idx q.1 ∈ good ∧ Cond.instantiable q.1 q.2.2 ∈ good ∧ Cond.initialized q.1 ∈ good
  | (.invokestatic idx, _, a, b, _) => mCk good pY pC P.2.2.1 pR pH pD k a b b ∧ Cond.static (pY a) ∈ good ∧ (Cond.methodLink (pY k).cls idx (pY a) ∈ good ∨ (pH a = none ∧ mNoT P k pc ∧ ∃ host, Cond.methodLinkNest (pY k).cls idx (pY a) host ∈ nw))
  | (.invokevirtual idx, _, a, b, c) => mCk good pY pC P.2.2.1 pR pH pD k a b (b + 1) ∧ pH a = none ∧ Cond.methodLink (pY k).cls idx (pY a) ∈ good ∧ Cond.instanceMethod (pY a) ∈ good ∧ Cond.selects (pY a).cls (pY a) (pY a) ∈ good ∧ ∃ q, cl[c]? = some q ∧ q.1 = (pY a).cls
  | (.invokespecial idx, _, a, b, c) => if c = 99 then (Cond.methodLink (pY k).cls idx Lib.objectInit ∈ good ∧ Cond.instanceMethod Lib.objectInit ∈ good ∧ Cond.code Lib.objectInit ⟨#[0xb1]⟩ 1 none ∈ good ∧ 1 ≤ (pD k).1 ∧ 20 ≤ (pD k).2)
    else mCk good pY pC P.2.2.1 pR pH pD k a b (b + 1) ∧ pH a = none ∧ pR a = none ∧ mNoT P k pc ∧ Cond.instanceMethod (pY a) ∈ good ∧ (pY a).name = "<init>" ∧ (Cond.methodLink (pY k).cls idx (pY a) ∈ good ∨ ∃ host, Cond.methodLinkNest (pY k).cls idx (pY a) host ∈ nw)
  | (.ireturn, _, _, _, c) => (c = 0 ∧ pR k = some .int) ∨ (c ≠ 0 ∧ pR k = some .boolean)
  | (.lreturn, _, _, _, _) => pR k = some .long
  | (.areturn, _, _, _, _) => ∃ n, pR k = some (.object n)
  | (.return_, _, _, _, _) => pR k = none
  | _ => True
def mChk (good nw : List Cond) (strs : List (String × Nat × String)) (cl : List vw_C) (ft : Nat → Nat → Nat) (P : mProg) (pY : Nat → MethodName) (pC : Nat → ByteArray) (pR : Nat → Option FieldType) (pH : Nat → Option (List (Nat × Nat × Nat × Nat))) (pD : Nat → Nat × Nat) (k pc : Nat) (e : mE) : Prop :=
  decode (pC k) pc = .ok (e.1, e.2.1) ∧ mlen e.1 e.2.1 = true ∧ mTh good nw strs cl ft P pY pC pR pH pD k pc e
/-- the catches' static facts -/
def mCat (good : List Cond) (P : mProg) (pY : Nat → MethodName) (pC : Nat → ByteArray) (pH : Nat → Option (List (Nat × Nat × Nat × Nat))) : Prop := ∀ k pc E,
  (P.2.1 k pc E = none → pH k = none) ∧ ∀ q, P.2.1 k pc E = some q → P.1 k q.1 = none ∨ (E < 3 ∧ ∃ hh pre x suf, pH k = some hh ∧ tableOf hh = pre ++ x :: suf ∧ (∀ z ∈ pre, z.catchType ≠ 0 ∧ ∃ j, j < 3 ∧ E ≠ j ∧ Cond.classLink (pY k).cls z.catchType (pE j) ∈ good) ∧ covers x pc = true ∧ x.catchType ≠ 0 ∧ Cond.classLink (pY k).cls x.catchType (pE E) ∈ good ∧ q.2 < P.2.2.1 k ∧
    ((∃ i : Fin 4, (i : Nat) = q.2 ∧ decode (pC k) x.handlerPc = .ok (.astore_n i, 1) ∧ q.1 = x.handlerPc + 1) ∨ (decode (pC k) x.handlerPc = .ok (.astore q.2, 2) ∧ q.1 = x.handlerPc + 2)))
def mOK (good nw : List Cond) (strs : List (String × Nat × String)) (cl : List vw_C) (ft : Nat → Nat → Nat) (P : mProg) (pY : Nat → MethodName) (pC : Nat → ByteArray) (pR : Nat → Option FieldType) (pH : Nat → Option (List (Nat × Nat × Nat × Nat))) (pD : Nat → Nat × Nat) : Prop :=
  (∀ w ∈ good, goodWord w = true) ∧ (∀ w ∈ nw, mNwOk w) ∧ mCl good cl ft ∧ (∀ k pc e, P.1 k pc = some e → mChk good nw strs cl ft P pY pC pR pH pD k pc e) ∧ mCat good P pY pC pH ∧
  (∀ k pc e, P.1 k pc = some e → plainFor (pY k) = true) ∧ (∀ a j, P.2.2.2.1 a j = if ft a j = 1 then -1 else 0) ∧ ∀ a q, cl[a]? = some q → P.2.2.2.2 a = q.2.2
section SIM
variable {p : Program} {l : Launch} {e : Env} {R : Room} {s : State} {m : MethodId} {args : Array Value} {below : List Frame} {meth : Method} {c : Code} {Q : State → Prop}
variable {good nw : List Cond} {D : va_G} {cl : List vw_C} {n0 b mt : Nat} {cA : Nat → ClassId} {ft : Nat → Nat → Nat} {L0 : Nat} {xs : Nat → Int32} {strs : List (String × Nat × String)}
variable {P : mProg} {pY : Nat → MethodName} {pC : Nat → ByteArray} {pR : Nat → Option FieldType} {pH : Nat → Option (List (Nat × Nat × Nat × Nat))} {pD : Nat → Nat × Nat}
variable {k pc pc' : Nat} {L L' : mLs} {st st' : List mV} {h h' : mH} {cells slots dc ds : Nat}
set_option maxHeartbeats 1000000 in
theorem mStep_ok {e1 : mE} (hOK : mOK good nw strs cl ft P pY pC pR pH pD) (hk : mChk good nw strs cl ft P pY pC pR pH pD k pc e1)
    (F : mFr p s m args meth c (pC k) (pY k).cls (decide ((pY k).name = "<init>")) good D cl n0 b mt cA ft L0 xs strs nw) (hRf : (pD k).1 ≤ R.frames) (hRl : (pD k).2 ≤ R.locals) (hLn : L.length = c.maxLocals)
    (hs : mstep P.2.2.2.1 P.2.2.2.2 e1 pc L st h = some (.inl (pc', L', st', h', dc, ds))) (hrc : cells + dc ≤ R.cells) (hrs : slots + ds ≤ R.slots)
    (kk : mK p l e R s m args below meth c Q D cl n0 b mt cA ft L0 xs pc' L' st' h' (cells + dc) (slots + ds)) : mK p l e R s m args below meth c Q D cl n0 b mt cA ft L0 xs pc L st h cells slots := by
  obtain ⟨i, n, a, b', c'⟩ := e1
  obtain ⟨hd, hl, hk⟩ := hk
  unfold mTh at hk
  obtain ⟨-, -, -, -, -, -, hfd, hnf⟩ := hOK
  cases i <;> simp only [mlen, beq_iff_eq] at hl <;> (try subst hl) <;> (try dsimp only at hd hk)
  case aload_n => exact mF_loads F _ (Or.inl rfl) hd hs kk
  case iload_n => exact mF_loads F _ (Or.inr (Or.inl rfl)) hd hs kk
  case lload_n => exact mF_loads F _ (Or.inr (Or.inr rfl)) hd hs kk
  case aload => exact mF_loads2 F _ (Or.inl rfl) hd hs kk
  case iload => exact mF_loads2 F _ (Or.inr (Or.inl rfl)) hd hs kk
  case lload => exact mF_loads2 F _ (Or.inr (Or.inr rfl)) hd hs kk
  case iconst x => exact mF_consts F _ (Or.inl ⟨x, rfl, rfl⟩) hd hs kk
  case bipush x => exact mF_consts F _ (Or.inr (Or.inl ⟨x, rfl, rfl⟩)) hd hs kk
  case sipush x => exact mF_consts F _ (Or.inr (Or.inr (Or.inl ⟨x, rfl, rfl⟩))) hd hs kk
  case lconst x => exact mF_consts F _ (Or.inr (Or.inr (Or.inr (Or.inl ⟨x, rfl, rfl⟩)))) hd hs kk
  case ldc x => exact mF_consts F _ (Or.inr (Or.inr (Or.inr (Or.inr (Or.inl ⟨x, rfl, rfl, hk⟩))))) hd hs kk
  case ldc_w x => exact mF_consts F _ (Or.inr (Or.inr (Or.inr (Or.inr (Or.inr ⟨x, rfl, rfl, hk⟩))))) hd hs kk
  case istore_n => exact mF_stores F _ (Or.inl rfl) hd hs kk
  case astore_n => exact mF_stores F _ (Or.inr (Or.inl rfl)) hd hs kk
  case lstore_n => exact mF_stores F _ (Or.inr (Or.inr rfl)) hd hs kk
  case istore => exact mF_stores2 F _ (Or.inl rfl) hd hs kk
  case astore => exact mF_stores2 F _ (Or.inr (Or.inl rfl)) hd hs kk
  case lstore => exact mF_stores2 F _ (Or.inr (Or.inr rfl)) hd hs kk
  case iinc => exact mF_iinc F hd hs kk
  case iadd => exact mF_arith F _ (by simp) hd hs kk
  case isub => exact mF_arith F _ (by simp) hd hs kk
  case imul => exact mF_arith F _ (by simp) hd hs kk
  case idiv => exact mF_arith F _ (by simp) hd hs kk
  case irem => exact mF_arith F _ (by simp) hd hs kk
  case iand => exact mF_arith F _ (by simp) hd hs kk
  case ior => exact mF_arith F _ (by simp) hd hs kk
  case ishl => exact mF_arith F _ (by simp) hd hs kk
  case ishr => exact mF_arith F _ (by simp) hd hs kk
  case iushr => exact mF_arith F _ (by simp) hd hs kk
  case ineg => exact mF_ineg F hd hs kk
  case i2l => exact mF_longs F _ (by simp) hd hs kk
  case lcmp => exact mF_longs F _ (by simp) hd hs kk
  case land => exact mF_longs F _ (by simp) hd hs kk
  case lor => exact mF_longs F _ (by simp) hd hs kk
  case lshl => exact mF_longs F _ (by simp) hd hs kk
  case lshr => exact mF_longs F _ (by simp) hd hs kk
  case dup => exact mF_stack F _ (by simp) hd hs kk
  case dup2 => exact mF_stack F _ (by simp) hd hs kk
  case pop => exact mF_stack F _ (by simp) hd hs kk
  case goto => exact mF_goto F hd hk hs kk
  case ifCond => exact mF_if F hd hk hs kk
  case if_icmp => exact mF_icmp F hd hk hs kk
  case tableswitch => exact mF_table F hd hs kk
  case getfield =>
    obtain ⟨q, h1, h2, h3, h4⟩ := hk
    exact mF_getfield F hd h1 h2 h3 h4 hs kk
  case putfield =>
    obtain ⟨q, h1, h2, h3, h4, h5⟩ := hk
    exact mF_putfield F hd h1 h2 h3 h4 h5 hs kk
  case getstatic => exact mF_getstatic F hd hk hs kk
  case arraylength => exact mF_alen F hd hs kk
  case iaload => exact mF_iaload F hd hs kk
  case baload => exact mF_aloads F _ (Or.inl rfl) hd hs kk
  case laload => exact mF_aloads F _ (Or.inr (Or.inl rfl)) hd hs kk
  case aaload => exact mF_aloads F _ (Or.inr (Or.inr ⟨rfl, hk⟩)) hd hs kk
  case iastore => exact mF_astores (q := ("", fun _ => ("", "", "", false), 0)) F _ (Or.inl rfl) hd hs kk
  case bastore => exact mF_astores (q := ("", fun _ => ("", "", "", false), 0)) F _ (Or.inr (Or.inl rfl)) hd hs kk
  case lastore => exact mF_astores (q := ("", fun _ => ("", "", "", false), 0)) F _ (Or.inr (Or.inr (Or.inl rfl))) hd hs kk
  case aastore =>
    obtain ⟨h1, h2, q, h3, h4⟩ := hk
    exact mF_astores (q := q) F _ (Or.inr (Or.inr (Or.inr ⟨rfl, h1, h2, h3, h4⟩))) hd hs kk
  case newarray => exact mF_newarray F hd hk hs hrc hrs kk
  case anewarray =>
    obtain ⟨h1, h2, C, h3, h4⟩ := hk
    exact mF_anewarray F hd h1 h2 h3 h4 hs hrc hrs kk
  case new =>
    by_cases hb : b' = 1
    · simp only [mstep, if_pos hb] at hs
      split at hs <;> cases hs
    · rw [if_neg hb] at hk
      obtain ⟨q, h1, h2, h3, h4⟩ := hk
      exact mF_new F hd hb h1 (hnf a q h1) (hfd a) h2 h3 h4 hs hrc hrs kk
  case invokespecial =>
    by_cases hc : c' = 99
    · subst hc
      rw [if_pos rfl] at hk
      obtain ⟨h1, h2, h3, h4, h5⟩ := hk
      exact mF_objInit F hd hLn h1 h2 h3 (by omega) (by omega) hs kk
    · simp only [mstep, if_neg hc, mcall] at hs
      split at hs
      · split at hs <;> cases hs
      · cases hs
  case invokevirtual =>
    simp only [mstep, mcall] at hs
    split at hs
    · split at hs <;> cases hs
    · cases hs
  case invokestatic =>
    simp only [mstep, mcall] at hs
    split at hs <;> cases hs
  case ireturn =>
    simp only [mstep, mi1] at hs
    split at hs
    · split at hs <;> cases hs
    · cases hs
  case lreturn =>
    simp only [mstep] at hs
    split at hs <;> cases hs
  case areturn =>
    simp only [mstep] at hs
    split at hs <;> cases hs
  case return_ =>
    simp only [mstep] at hs
    split at hs <;> cases hs
  all_goals
    simp only [mstep] at hs
    cases hs
end SIM
