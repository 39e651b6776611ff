/-! Static facts of the program: callees, throws. -/

/-- the program -/
def mPg : mProg := (fun k pc => bif Nat.blt k 365 then mlook (mtab k) pc else none, mCt, mN, mfd, mnf)
abbrev mT (k pc : Nat) (e : mE) : Prop := mTh mGd mnw mstrs mcl mft mPg mY mC mRt mHn mDp k pc e
theorem mIfN {c A B : Prop} [Decidable c] (h : ¬ c) (b : B) : if c then A else B := by rw [if_neg h]; exact b
theorem mIfP {c A B : Prop} [Decidable c] (h : c) (a : A) : if c then A else B := by rw [if_pos h]; exact a
theorem msig {d : String} {n : Nat} (h : (parseMethodDescriptor d).map (fun s => s.parameters.length) = some n) : ∀ sig, parseMethodDescriptor d = some sig → n = sig.parameters.length := by
  intro sig hs
  rw [hs] at h
  exact (Option.some.inj h).symm
def mCal (k nn : Nat) : Prop := mwd (mY k) (mC k) (mPg.2.2.1 k) (mRt k) (mHn k) ∈ mGd ∧ Cond.initialized (mY k).cls ∈ mGd ∧ ((mY k).cls ≠ "java/lang/invoke/MethodHandle" ∧ (mY k).cls ≠ "java/lang/invoke/VarHandle") ∧ ∀ sig, parseMethodDescriptor (mY k).desc = some sig → nn = sig.parameters.length
/-- entries whose facts are none, or a sum -/
def mTriv (q : Nat × mE) : Bool := match q.2.1 with
  | .goto off => decide ((q.1 : Int) + off = (q.2.2.2.1 : Int))
  | .ifCond _ off => decide ((q.1 : Int) + off = (q.2.2.2.1 : Int))
  | .if_icmp _ off => decide ((q.1 : Int) + off = (q.2.2.2.1 : Int))
  | .ldc _ | .ldc_w _ | .getfield _ | .putfield _ | .getstatic _ | .aaload | .aastore | .newarray _ | .anewarray _ | .new _ | .invokestatic _ | .invokevirtual _ | .invokespecial _ | .ireturn | .lreturn | .areturn | .return_ => false
  | _ => true
theorem mTriv_ok {k : Nat} {q : Nat × mE} (h : mTriv q = true) : mT k q.1 q.2 := by
  obtain ⟨pc, i, n, a, b, c⟩ := q
  cases i <;> first
    | exact trivial
    | (cases h; done)
    | (have h2 : (pc : Int) + _ = (a : Int) := of_decide_eq_true h
       exact h2)
def mAllP (k : Nat) : List (Nat × mE) → Prop
  | [] => True
  | q :: l => bif mTriv q then mAllP k l else mT k q.1 q.2 ∧ mAllP k l
theorem mAllP_mem {k : Nat} : ∀ {l : List (Nat × mE)}, mAllP k l → ∀ q ∈ l, mT k q.1 q.2 := by
  intro l
  induction l with
  | nil => intro _ q hq; cases hq
  | cons q l ih =>
    intro h q' hq'
    unfold mAllP at h
    cases ht : mTriv q with
    | true =>
      rw [ht] at h
      rcases List.mem_cons.mp hq' with rfl | hq'
      · exact mTriv_ok ht
      · exact ih h q' hq'
    | false =>
      rw [ht] at h
      rcases List.mem_cons.mp hq' with rfl | hq'
      · exact h.1
      · exact ih h.2 q' hq'
theorem mA1 {k : Nat} {q : Nat × mE} {l : List (Nat × mE)} (ht : mTriv q = false) (h : mT k q.1 q.2) (hl : mAllP k l) : mAllP k (q :: l) := by
  unfold mAllP; rw [ht]; exact ⟨h, hl⟩
theorem mA0 {k : Nat} {q : Nat × mE} {l : List (Nat × mE)} (ht : mTriv q = true) (hl : mAllP k l) : mAllP k (q :: l) := by
  unfold mAllP; rw [ht]; exact hl
theorem mNoneL : ∀ k, k < 365 → mlook (mtab k) 100000 = none := by decide +kernel
theorem mNone (k : Nat) : mPg.1 k 100000 = none := by
  show (bif Nat.blt k 365 then mlook (mtab k) 100000 else none) = none
  cases h : Nat.blt k 365 with
  | false => rfl
  | true => exact mNoneL k (by simpa using h)

theorem cal_0 : mCal 0 0 := ⟨gw_175, gw_8, ⟨by decide +kernel, by decide +kernel⟩, msig (by decide +kernel)⟩
theorem ini_0 : decide ((mY 0).name = "<init>") = true := by decide +kernel
theorem cal_1 : mCal 1 3 := ⟨gw_1201, gw_8, ⟨by decide +kernel, by decide +kernel⟩, msig (by decide +kernel)⟩
theorem cal_2 : mCal 2 4 := ⟨gw_723, gw_8, ⟨by decide +kernel, by decide +kernel⟩, msig (by decide +kernel)⟩
theorem cal_3 : mCal 3 1 := ⟨gw_818, gw_8, ⟨by decide +kernel, by decide +kernel⟩, msig (by decide +kernel)⟩
theorem cal_4 : mCal 4 2 := ⟨gw_815, gw_8, ⟨by decide +kernel, by decide +kernel⟩, msig (by decide +kernel)⟩
theorem cal_5 : mCal 5 2 := ⟨gw_806, gw_8, ⟨by decide +kernel, by decide +kernel⟩, msig (by decide +kernel)⟩
theorem cal_6 : mCal 6 3 := ⟨gw_811, gw_8, ⟨by decide +kernel, by decide +kernel⟩, msig (by decide +kernel)⟩
theorem cal_7 : mCal 7 4 := ⟨gw_1220, gw_8, ⟨by decide +kernel, by decide +kernel⟩, msig (by decide +kernel)⟩
theorem cal_8 : mCal 8 4 := ⟨gw_1233, gw_8, ⟨by decide +kernel, by decide +kernel⟩, msig (by decide +kernel)⟩
theorem cal_9 : mCal 9 4 := ⟨gw_1245, gw_8, ⟨by decide +kernel, by decide +kernel⟩, msig (by decide +kernel)⟩
theorem cal_10 : mCal 10 5 := ⟨gw_1257, gw_8, ⟨by decide +kernel, by decide +kernel⟩, msig (by decide +kernel)⟩
theorem cal_11 : mCal 11 2 := ⟨gw_1261, gw_8, ⟨by decide +kernel, by decide +kernel⟩, msig (by decide +kernel)⟩
theorem cal_12 : mCal 12 0 := ⟨gw_33, gw_2, ⟨by decide +kernel, by decide +kernel⟩, msig (by decide +kernel)⟩
theorem ini_12 : decide ((mY 12).name = "<init>") = true := by decide +kernel
theorem cal_13 : mCal 13 0 := ⟨gw_552, gw_2, ⟨by decide +kernel, by decide +kernel⟩, msig (by decide +kernel)⟩
theorem cal_14 : mCal 14 1 := ⟨gw_432, gw_2, ⟨by decide +kernel, by decide +kernel⟩, msig (by decide +kernel)⟩
theorem cal_15 : mCal 15 1 := ⟨gw_436, gw_2, ⟨by decide +kernel, by decide +kernel⟩, msig (by decide +kernel)⟩
theorem cal_16 : mCal 16 1 := ⟨gw_581, gw_2, ⟨by decide +kernel, by decide +kernel⟩, msig (by decide +kernel)⟩
theorem cal_17 : mCal 17 1 := ⟨gw_532, gw_2, ⟨by decide +kernel, by decide +kernel⟩, msig (by decide +kernel)⟩
theorem cal_18 : mCal 18 3 := ⟨gw_548, gw_2, ⟨by decide +kernel, by decide +kernel⟩, msig (by decide +kernel)⟩
theorem cal_19 : mCal 19 2 := ⟨gw_543, gw_2, ⟨by decide +kernel, by decide +kernel⟩, msig (by decide +kernel)⟩
theorem cal_20 : mCal 20 2 := ⟨gw_568, gw_2, ⟨by decide +kernel, by decide +kernel⟩, msig (by decide +kernel)⟩
theorem cal_21 : mCal 21 2 := ⟨gw_575, gw_2, ⟨by decide +kernel, by decide +kernel⟩, msig (by decide +kernel)⟩
theorem cal_22 : mCal 22 2 := ⟨gw_584, gw_2, ⟨by decide +kernel, by decide +kernel⟩, msig (by decide +kernel)⟩
theorem cal_23 : mCal 23 2 := ⟨gw_1163, gw_2, ⟨by decide +kernel, by decide +kernel⟩, msig (by decide +kernel)⟩
theorem cal_24 : mCal 24 0 := ⟨gw_142, gw_6, ⟨by decide +kernel, by decide +kernel⟩, msig (by decide +kernel)⟩
theorem ini_24 : decide ((mY 24).name = "<init>") = true := by decide +kernel
theorem cal_25 : mCal 25 0 := ⟨gw_1039, gw_6, ⟨by decide +kernel, by decide +kernel⟩, msig (by decide +kernel)⟩
theorem cal_26 : mCal 26 1 := ⟨gw_1070, gw_6, ⟨by decide +kernel, by decide +kernel⟩, msig (by decide +kernel)⟩
theorem cal_27 : mCal 27 1 := ⟨gw_1045, gw_6, ⟨by decide +kernel, by decide +kernel⟩, msig (by decide +kernel)⟩
theorem cal_28 : mCal 28 1 := ⟨gw_1075, gw_6, ⟨by decide +kernel, by decide +kernel⟩, msig (by decide +kernel)⟩
theorem cal_29 : mCal 29 1 := ⟨gw_1081, gw_6, ⟨by decide +kernel, by decide +kernel⟩, msig (by decide +kernel)⟩
theorem cal_30 : mCal 30 2 := ⟨gw_1085, gw_6, ⟨by decide +kernel, by decide +kernel⟩, msig (by decide +kernel)⟩
theorem cal_31 : mCal 31 1 := ⟨gw_1057, gw_6, ⟨by decide +kernel, by decide +kernel⟩, msig (by decide +kernel)⟩
theorem cal_32 : mCal 32 2 := ⟨gw_1410, gw_6, ⟨by decide +kernel, by decide +kernel⟩, msig (by decide +kernel)⟩
theorem cal_33 : mCal 33 1 := ⟨gw_1406, gw_6, ⟨by decide +kernel, by decide +kernel⟩, msig (by decide +kernel)⟩
theorem cal_34 : mCal 34 0 := ⟨gw_181, gw_9, ⟨by decide +kernel, by decide +kernel⟩, msig (by decide +kernel)⟩
theorem ini_34 : decide ((mY 34).name = "<init>") = true := by decide +kernel
theorem cal_35 : mCal 35 2 := ⟨gw_727, gw_9, ⟨by decide +kernel, by decide +kernel⟩, msig (by decide +kernel)⟩
theorem cal_36 : mCal 36 1 := ⟨gw_732, gw_9, ⟨by decide +kernel, by decide +kernel⟩, msig (by decide +kernel)⟩
theorem cal_37 : mCal 37 3 := ⟨gw_749, gw_9, ⟨by decide +kernel, by decide +kernel⟩, msig (by decide +kernel)⟩
theorem cal_38 : mCal 38 3 := ⟨gw_744, gw_9, ⟨by decide +kernel, by decide +kernel⟩, msig (by decide +kernel)⟩
theorem cal_39 : mCal 39 2 := ⟨gw_740, gw_9, ⟨by decide +kernel, by decide +kernel⟩, msig (by decide +kernel)⟩
theorem cal_40 : mCal 40 3 := ⟨gw_760, gw_9, ⟨by decide +kernel, by decide +kernel⟩, msig (by decide +kernel)⟩
theorem cal_41 : mCal 41 3 := ⟨gw_771, gw_9, ⟨by decide +kernel, by decide +kernel⟩, msig (by decide +kernel)⟩
theorem cal_42 : mCal 42 4 := ⟨gw_783, gw_9, ⟨by decide +kernel, by decide +kernel⟩, msig (by decide +kernel)⟩
theorem cal_43 : mCal 43 1 := ⟨gw_1205, gw_9, ⟨by decide +kernel, by decide +kernel⟩, msig (by decide +kernel)⟩
theorem cal_44 : mCal 44 1 := ⟨gw_1266, gw_9, ⟨by decide +kernel, by decide +kernel⟩, msig (by decide +kernel)⟩
theorem cal_45 : mCal 45 3 := ⟨gw_795, gw_9, ⟨by decide +kernel, by decide +kernel⟩, msig (by decide +kernel)⟩
theorem cal_46 : mCal 46 3 := ⟨gw_803, gw_9, ⟨by decide +kernel, by decide +kernel⟩, msig (by decide +kernel)⟩
theorem cal_47 : mCal 47 2 := ⟨gw_799, gw_9, ⟨by decide +kernel, by decide +kernel⟩, msig (by decide +kernel)⟩
theorem cal_48 : mCal 48 0 := ⟨gw_269, gw_12, ⟨by decide +kernel, by decide +kernel⟩, msig (by decide +kernel)⟩
theorem ini_48 : decide ((mY 48).name = "<init>") = true := by decide +kernel
theorem cal_49 : mCal 49 3 := ⟨gw_960, gw_12, ⟨by decide +kernel, by decide +kernel⟩, msig (by decide +kernel)⟩
theorem cal_50 : mCal 50 0 := ⟨gw_696, gw_12, ⟨by decide +kernel, by decide +kernel⟩, msig (by decide +kernel)⟩
theorem cal_51 : mCal 51 0 := ⟨gw_395, gw_12, ⟨by decide +kernel, by decide +kernel⟩, msig (by decide +kernel)⟩
theorem cal_52 : mCal 52 0 := ⟨gw_831, gw_12, ⟨by decide +kernel, by decide +kernel⟩, msig (by decide +kernel)⟩
theorem cal_53 : mCal 53 0 := ⟨gw_956, gw_12, ⟨by decide +kernel, by decide +kernel⟩, msig (by decide +kernel)⟩
theorem cal_54 : mCal 54 1 := ⟨gw_827, gw_12, ⟨by decide +kernel, by decide +kernel⟩, msig (by decide +kernel)⟩
theorem cal_55 : mCal 55 0 := ⟨gw_981, gw_12, ⟨by decide +kernel, by decide +kernel⟩, msig (by decide +kernel)⟩
theorem cal_56 : mCal 56 0 := ⟨gw_700, gw_12, ⟨by decide +kernel, by decide +kernel⟩, msig (by decide +kernel)⟩
theorem cal_57 : mCal 57 0 := ⟨gw_711, gw_12, ⟨by decide +kernel, by decide +kernel⟩, msig (by decide +kernel)⟩
theorem cal_58 : mCal 58 2 := ⟨gw_985, gw_12, ⟨by decide +kernel, by decide +kernel⟩, msig (by decide +kernel)⟩
theorem cal_59 : mCal 59 0 := ⟨gw_399, gw_12, ⟨by decide +kernel, by decide +kernel⟩, msig (by decide +kernel)⟩
theorem cal_60 : mCal 60 1 := ⟨gw_1006, gw_12, ⟨by decide +kernel, by decide +kernel⟩, msig (by decide +kernel)⟩
theorem cal_61 : mCal 61 2 := ⟨gw_1003, gw_12, ⟨by decide +kernel, by decide +kernel⟩, msig (by decide +kernel)⟩
theorem cal_62 : mCal 62 1 := ⟨gw_1126, gw_12, ⟨by decide +kernel, by decide +kernel⟩, msig (by decide +kernel)⟩
theorem cal_63 : mCal 63 1 := ⟨gw_1133, gw_12, ⟨by decide +kernel, by decide +kernel⟩, msig (by decide +kernel)⟩
theorem cal_64 : mCal 64 2 := ⟨gw_1000, gw_12, ⟨by decide +kernel, by decide +kernel⟩, msig (by decide +kernel)⟩
theorem cal_65 : mCal 65 2 := ⟨gw_1012, gw_12, ⟨by decide +kernel, by decide +kernel⟩, msig (by decide +kernel)⟩
theorem cal_66 : mCal 66 1 := ⟨gw_1122, gw_12, ⟨by decide +kernel, by decide +kernel⟩, msig (by decide +kernel)⟩
theorem cal_67 : mCal 67 0 := ⟨gw_407, gw_12, ⟨by decide +kernel, by decide +kernel⟩, msig (by decide +kernel)⟩
theorem cal_68 : mCal 68 1 := ⟨gw_415, gw_12, ⟨by decide +kernel, by decide +kernel⟩, msig (by decide +kernel)⟩
theorem cal_69 : mCal 69 0 := ⟨gw_1384, gw_12, ⟨by decide +kernel, by decide +kernel⟩, msig (by decide +kernel)⟩
theorem cal_70 : mCal 70 2 := ⟨gw_1027, gw_12, ⟨by decide +kernel, by decide +kernel⟩, msig (by decide +kernel)⟩
theorem cal_71 : mCal 71 0 := ⟨gw_232, gw_10, ⟨by decide +kernel, by decide +kernel⟩, msig (by decide +kernel)⟩
theorem ini_71 : decide ((mY 71).name = "<init>") = true := by decide +kernel
theorem cal_72 : mCal 72 0 := ⟨gw_1380, gw_10, ⟨by decide +kernel, by decide +kernel⟩, msig (by decide +kernel)⟩
theorem cal_73 : mCal 73 1 := ⟨gw_1341, gw_10, ⟨by decide +kernel, by decide +kernel⟩, msig (by decide +kernel)⟩
theorem cal_74 : mCal 74 1 := ⟨gw_1321, gw_10, ⟨by decide +kernel, by decide +kernel⟩, msig (by decide +kernel)⟩
theorem cal_75 : mCal 75 2 := ⟨gw_1330, gw_10, ⟨by decide +kernel, by decide +kernel⟩, msig (by decide +kernel)⟩
theorem cal_76 : mCal 76 1 := ⟨gw_1336, gw_10, ⟨by decide +kernel, by decide +kernel⟩, msig (by decide +kernel)⟩
theorem cal_77 : mCal 77 0 := ⟨gw_249, gw_11, ⟨by decide +kernel, by decide +kernel⟩, msig (by decide +kernel)⟩
theorem ini_77 : decide ((mY 77).name = "<init>") = true := by decide +kernel
theorem cal_78 : mCal 78 0 := ⟨gw_679, gw_11, ⟨by decide +kernel, by decide +kernel⟩, msig (by decide +kernel)⟩
theorem cal_79 : mCal 79 0 := ⟨gw_683, gw_11, ⟨by decide +kernel, by decide +kernel⟩, msig (by decide +kernel)⟩
theorem cal_80 : mCal 80 0 := ⟨gw_687, gw_11, ⟨by decide +kernel, by decide +kernel⟩, msig (by decide +kernel)⟩
theorem cal_81 : mCal 81 1 := ⟨gw_822, gw_11, ⟨by decide +kernel, by decide +kernel⟩, msig (by decide +kernel)⟩
theorem cal_82 : mCal 82 1 := ⟨gw_1295, gw_11, ⟨by decide +kernel, by decide +kernel⟩, msig (by decide +kernel)⟩
theorem cal_83 : mCal 83 0 := ⟨gw_968, gw_11, ⟨by decide +kernel, by decide +kernel⟩, msig (by decide +kernel)⟩
theorem cal_84 : mCal 84 0 := ⟨gw_1361, gw_11, ⟨by decide +kernel, by decide +kernel⟩, msig (by decide +kernel)⟩
theorem cal_85 : mCal 85 1 := ⟨gw_856, gw_11, ⟨by decide +kernel, by decide +kernel⟩, msig (by decide +kernel)⟩
theorem cal_86 : mCal 86 0 := ⟨gw_160, gw_7, ⟨by decide +kernel, by decide +kernel⟩, msig (by decide +kernel)⟩
theorem ini_86 : decide ((mY 86).name = "<init>") = true := by decide +kernel
theorem cal_87 : mCal 87 0 := ⟨gw_1104, gw_7, ⟨by decide +kernel, by decide +kernel⟩, msig (by decide +kernel)⟩
theorem cal_88 : mCal 88 2 := ⟨gw_1097, gw_7, ⟨by decide +kernel, by decide +kernel⟩, msig (by decide +kernel)⟩
theorem cal_89 : mCal 89 2 := ⟨gw_1109, gw_7, ⟨by decide +kernel, by decide +kernel⟩, msig (by decide +kernel)⟩
theorem cal_90 : mCal 90 0 := ⟨gw_1139, gw_7, ⟨by decide +kernel, by decide +kernel⟩, msig (by decide +kernel)⟩
theorem cal_91 : mCal 91 1 := ⟨gw_1130, gw_7, ⟨by decide +kernel, by decide +kernel⟩, msig (by decide +kernel)⟩
theorem cal_92 : mCal 92 1 := ⟨gw_50, gw_3, ⟨by decide +kernel, by decide +kernel⟩, msig (by decide +kernel)⟩
theorem ini_92 : decide ((mY 92).name = "<init>") = true := by decide +kernel
theorem cal_93 : mCal 93 0 := ⟨gw_94, gw_3, ⟨by decide +kernel, by decide +kernel⟩, msig (by decide +kernel)⟩
theorem cal_94 : mCal 94 0 := ⟨gw_403, gw_3, ⟨by decide +kernel, by decide +kernel⟩, msig (by decide +kernel)⟩
theorem cal_95 : mCal 95 1 := ⟨gw_98, gw_3, ⟨by decide +kernel, by decide +kernel⟩, msig (by decide +kernel)⟩
theorem cal_96 : mCal 96 2 := ⟨gw_594, gw_3, ⟨by decide +kernel, by decide +kernel⟩, msig (by decide +kernel)⟩
theorem cal_97 : mCal 97 1 := ⟨gw_82, gw_3, ⟨by decide +kernel, by decide +kernel⟩, msig (by decide +kernel)⟩
theorem cal_98 : mCal 98 2 := ⟨gw_848, gw_3, ⟨by decide +kernel, by decide +kernel⟩, msig (by decide +kernel)⟩
theorem cal_99 : mCal 99 1 := ⟨gw_876, gw_3, ⟨by decide +kernel, by decide +kernel⟩, msig (by decide +kernel)⟩
theorem cal_100 : mCal 100 0 := ⟨gw_90, gw_3, ⟨by decide +kernel, by decide +kernel⟩, msig (by decide +kernel)⟩
theorem cal_101 : mCal 101 3 := ⟨gw_704, gw_3, ⟨by decide +kernel, by decide +kernel⟩, msig (by decide +kernel)⟩
theorem cal_102 : mCal 102 1 := ⟨gw_860, gw_3, ⟨by decide +kernel, by decide +kernel⟩, msig (by decide +kernel)⟩
theorem cal_103 : mCal 103 1 := ⟨gw_662, gw_3, ⟨by decide +kernel, by decide +kernel⟩, msig (by decide +kernel)⟩
theorem cal_104 : mCal 104 1 := ⟨gw_658, gw_3, ⟨by decide +kernel, by decide +kernel⟩, msig (by decide +kernel)⟩
theorem cal_105 : mCal 105 0 := ⟨gw_68, gw_5, ⟨by decide +kernel, by decide +kernel⟩, msig (by decide +kernel)⟩
theorem ini_105 : decide ((mY 105).name = "<init>") = true := by decide +kernel
theorem cal_106 : mCal 106 2 := ⟨gw_75, gw_5, ⟨by decide +kernel, by decide +kernel⟩, msig (by decide +kernel)⟩
theorem cal_107 : mCal 107 0 := ⟨gw_86, gw_5, ⟨by decide +kernel, by decide +kernel⟩, msig (by decide +kernel)⟩
theorem cal_108 : mCal 108 1 := ⟨gw_756, gw_5, ⟨by decide +kernel, by decide +kernel⟩, msig (by decide +kernel)⟩
theorem cal_109 : mCal 109 2 := ⟨gw_926, gw_5, ⟨by decide +kernel, by decide +kernel⟩, msig (by decide +kernel)⟩
theorem cal_110 : mCal 110 0 := ⟨gw_1183, gw_5, ⟨by decide +kernel, by decide +kernel⟩, msig (by decide +kernel)⟩
theorem cal_111 : mCal 111 0 := ⟨gw_893, gw_5, ⟨by decide +kernel, by decide +kernel⟩, msig (by decide +kernel)⟩
theorem cal_112 : mCal 112 1 := ⟨gw_1188, gw_5, ⟨by decide +kernel, by decide +kernel⟩, msig (by decide +kernel)⟩
theorem cal_113 : mCal 113 1 := ⟨gw_779, gw_5, ⟨by decide +kernel, by decide +kernel⟩, msig (by decide +kernel)⟩
theorem cal_114 : mCal 114 1 := ⟨gw_765, gw_5, ⟨by decide +kernel, by decide +kernel⟩, msig (by decide +kernel)⟩
theorem cal_115 : mCal 115 2 := ⟨gw_789, gw_5, ⟨by decide +kernel, by decide +kernel⟩, msig (by decide +kernel)⟩
theorem cal_116 : mCal 116 3 := ⟨gw_638, gw_5, ⟨by decide +kernel, by decide +kernel⟩, msig (by decide +kernel)⟩
theorem cal_117 : mCal 117 1 := ⟨gw_641, gw_5, ⟨by decide +kernel, by decide +kernel⟩, msig (by decide +kernel)⟩
theorem cal_118 : mCal 118 2 := ⟨gw_654, gw_5, ⟨by decide +kernel, by decide +kernel⟩, msig (by decide +kernel)⟩
theorem cal_119 : mCal 119 1 := ⟨gw_666, gw_5, ⟨by decide +kernel, by decide +kernel⟩, msig (by decide +kernel)⟩
theorem cal_120 : mCal 120 3 := ⟨gw_866, gw_5, ⟨by decide +kernel, by decide +kernel⟩, msig (by decide +kernel)⟩
theorem cal_121 : mCal 121 1 := ⟨gw_870, gw_5, ⟨by decide +kernel, by decide +kernel⟩, msig (by decide +kernel)⟩
theorem cal_122 : mCal 122 1 := ⟨gw_880, gw_5, ⟨by decide +kernel, by decide +kernel⟩, msig (by decide +kernel)⟩
theorem cal_123 : mCal 123 3 := ⟨gw_889, gw_5, ⟨by decide +kernel, by decide +kernel⟩, msig (by decide +kernel)⟩
theorem cal_124 : mCal 124 3 := ⟨gw_884, gw_5, ⟨by decide +kernel, by decide +kernel⟩, msig (by decide +kernel)⟩
theorem cal_125 : mCal 125 1 := ⟨gw_910, gw_5, ⟨by decide +kernel, by decide +kernel⟩, msig (by decide +kernel)⟩
theorem cal_126 : mCal 126 1 := ⟨gw_905, gw_5, ⟨by decide +kernel, by decide +kernel⟩, msig (by decide +kernel)⟩
theorem cal_127 : mCal 127 0 := ⟨gw_25, gw_1, ⟨by decide +kernel, by decide +kernel⟩, msig (by decide +kernel)⟩
theorem ini_127 : decide ((mY 127).name = "<init>") = true := by decide +kernel
theorem cal_128 : mCal 128 1 := ⟨gw_424, gw_1, ⟨by decide +kernel, by decide +kernel⟩, msig (by decide +kernel)⟩
theorem cal_129 : mCal 129 3 := ⟨gw_528, gw_1, ⟨by decide +kernel, by decide +kernel⟩, msig (by decide +kernel)⟩
theorem cal_130 : mCal 130 0 := ⟨gw_559, gw_1, ⟨by decide +kernel, by decide +kernel⟩, msig (by decide +kernel)⟩
theorem cal_131 : mCal 131 0 := ⟨gw_365, gw_1, ⟨by decide +kernel, by decide +kernel⟩, msig (by decide +kernel)⟩
theorem cal_132 : mCal 132 0 := ⟨gw_601, gw_1, ⟨by decide +kernel, by decide +kernel⟩, msig (by decide +kernel)⟩
theorem cal_133 : mCal 133 2 := ⟨gw_610, gw_1, ⟨by decide +kernel, by decide +kernel⟩, msig (by decide +kernel)⟩
theorem cal_134 : mCal 134 2 := ⟨gw_900, gw_1, ⟨by decide +kernel, by decide +kernel⟩, msig (by decide +kernel)⟩
theorem cal_135 : mCal 135 3 := ⟨gw_920, gw_1, ⟨by decide +kernel, by decide +kernel⟩, msig (by decide +kernel)⟩
theorem cal_136 : mCal 136 2 := ⟨gw_933, gw_1, ⟨by decide +kernel, by decide +kernel⟩, msig (by decide +kernel)⟩
theorem cal_137 : mCal 137 3 := ⟨gw_941, gw_1, ⟨by decide +kernel, by decide +kernel⟩, msig (by decide +kernel)⟩
theorem cal_138 : mCal 138 3 := ⟨gw_975, gw_1, ⟨by decide +kernel, by decide +kernel⟩, msig (by decide +kernel)⟩
theorem cal_139 : mCal 139 3 := ⟨gw_992, gw_1, ⟨by decide +kernel, by decide +kernel⟩, msig (by decide +kernel)⟩
theorem cal_140 : mCal 140 3 := ⟨gw_1022, gw_1, ⟨by decide +kernel, by decide +kernel⟩, msig (by decide +kernel)⟩
theorem cal_141 : mCal 141 1 := ⟨gw_1034, gw_1, ⟨by decide +kernel, by decide +kernel⟩, msig (by decide +kernel)⟩
theorem cal_142 : mCal 142 2 := ⟨gw_1053, gw_1, ⟨by decide +kernel, by decide +kernel⟩, msig (by decide +kernel)⟩
theorem cal_143 : mCal 143 2 := ⟨gw_1066, gw_1, ⟨by decide +kernel, by decide +kernel⟩, msig (by decide +kernel)⟩
theorem cal_144 : mCal 144 2 := ⟨gw_1093, gw_1, ⟨by decide +kernel, by decide +kernel⟩, msig (by decide +kernel)⟩
theorem cal_145 : mCal 145 0 := ⟨gw_1117, gw_1, ⟨by decide +kernel, by decide +kernel⟩, msig (by decide +kernel)⟩
theorem cal_146 : mCal 146 2 := ⟨gw_1147, gw_1, ⟨by decide +kernel, by decide +kernel⟩, msig (by decide +kernel)⟩
theorem cal_147 : mCal 147 0 := ⟨gw_371, gw_1, ⟨by decide +kernel, by decide +kernel⟩, msig (by decide +kernel)⟩
theorem cal_148 : mCal 148 3 := ⟨gw_1158, gw_1, ⟨by decide +kernel, by decide +kernel⟩, msig (by decide +kernel)⟩
theorem cal_149 : mCal 149 1 := ⟨gw_1172, gw_1, ⟨by decide +kernel, by decide +kernel⟩, msig (by decide +kernel)⟩
theorem cal_150 : mCal 150 2 := ⟨gw_1179, gw_1, ⟨by decide +kernel, by decide +kernel⟩, msig (by decide +kernel)⟩
theorem cal_151 : mCal 151 3 := ⟨gw_1196, gw_1, ⟨by decide +kernel, by decide +kernel⟩, msig (by decide +kernel)⟩
theorem cal_152 : mCal 152 4 := ⟨gw_1212, gw_1, ⟨by decide +kernel, by decide +kernel⟩, msig (by decide +kernel)⟩
theorem cal_153 : mCal 153 4 := ⟨gw_1228, gw_1, ⟨by decide +kernel, by decide +kernel⟩, msig (by decide +kernel)⟩
theorem cal_154 : mCal 154 4 := ⟨gw_1241, gw_1, ⟨by decide +kernel, by decide +kernel⟩, msig (by decide +kernel)⟩
theorem cal_155 : mCal 155 5 := ⟨gw_1252, gw_1, ⟨by decide +kernel, by decide +kernel⟩, msig (by decide +kernel)⟩
theorem cal_156 : mCal 156 0 := ⟨gw_375, gw_1, ⟨by decide +kernel, by decide +kernel⟩, msig (by decide +kernel)⟩
theorem cal_157 : mCal 157 2 := ⟨gw_1274, gw_1, ⟨by decide +kernel, by decide +kernel⟩, msig (by decide +kernel)⟩
theorem cal_158 : mCal 158 2 := ⟨gw_1282, gw_1, ⟨by decide +kernel, by decide +kernel⟩, msig (by decide +kernel)⟩
theorem cal_159 : mCal 159 2 := ⟨gw_1316, gw_1, ⟨by decide +kernel, by decide +kernel⟩, msig (by decide +kernel)⟩
theorem cal_160 : mCal 160 1 := ⟨gw_1349, gw_1, ⟨by decide +kernel, by decide +kernel⟩, msig (by decide +kernel)⟩
theorem cal_161 : mCal 161 0 := ⟨gw_379, gw_1, ⟨by decide +kernel, by decide +kernel⟩, msig (by decide +kernel)⟩
theorem cal_162 : mCal 162 1 := ⟨gw_1356, gw_1, ⟨by decide +kernel, by decide +kernel⟩, msig (by decide +kernel)⟩
theorem cal_163 : mCal 163 2 := ⟨gw_1368, gw_1, ⟨by decide +kernel, by decide +kernel⟩, msig (by decide +kernel)⟩
theorem cal_164 : mCal 164 3 := ⟨gw_1402, gw_1, ⟨by decide +kernel, by decide +kernel⟩, msig (by decide +kernel)⟩
theorem cal_165 : mCal 165 1 := ⟨gw_428, gw_1, ⟨by decide +kernel, by decide +kernel⟩, msig (by decide +kernel)⟩
theorem cal_166 : mCal 166 1 := ⟨gw_949, gw_1, ⟨by decide +kernel, by decide +kernel⟩, msig (by decide +kernel)⟩
theorem cal_167 : mCal 167 1 := ⟨gw_945, gw_1, ⟨by decide +kernel, by decide +kernel⟩, msig (by decide +kernel)⟩
theorem cal_168 : mCal 168 2 := ⟨gw_1286, gw_1, ⟨by decide +kernel, by decide +kernel⟩, msig (by decide +kernel)⟩
theorem cal_169 : mCal 169 1 := ⟨gw_564, gw_1, ⟨by decide +kernel, by decide +kernel⟩, msig (by decide +kernel)⟩
theorem cal_170 : mCal 170 1 := ⟨gw_719, gw_1, ⟨by decide +kernel, by decide +kernel⟩, msig (by decide +kernel)⟩
theorem cal_171 : mCal 171 1 := ⟨gw_391, gw_1, ⟨by decide +kernel, by decide +kernel⟩, msig (by decide +kernel)⟩
theorem cal_172 : mCal 172 1 := ⟨gw_715, gw_1, ⟨by decide +kernel, by decide +kernel⟩, msig (by decide +kernel)⟩
theorem cal_173 : mCal 173 1 := ⟨gw_675, gw_1, ⟨by decide +kernel, by decide +kernel⟩, msig (by decide +kernel)⟩
theorem cal_174 : mCal 174 1 := ⟨gw_613, gw_1, ⟨by decide +kernel, by decide +kernel⟩, msig (by decide +kernel)⟩
theorem cal_175 : mCal 175 1 := ⟨gw_1215, gw_1, ⟨by decide +kernel, by decide +kernel⟩, msig (by decide +kernel)⟩
theorem cal_176 : mCal 176 1 := ⟨gw_995, gw_1, ⟨by decide +kernel, by decide +kernel⟩, msig (by decide +kernel)⟩
theorem cal_177 : mCal 177 1 := ⟨gw_1150, gw_1, ⟨by decide +kernel, by decide +kernel⟩, msig (by decide +kernel)⟩
theorem cal_178 : mCal 178 1 := ⟨gw_535, gw_1, ⟨by decide +kernel, by decide +kernel⟩, msig (by decide +kernel)⟩
theorem cal_179 : mCal 179 1 := ⟨gw_538, gw_1, ⟨by decide +kernel, by decide +kernel⟩, msig (by decide +kernel)⟩
theorem cal_180 : mCal 180 1 := ⟨gw_774, gw_1, ⟨by decide +kernel, by decide +kernel⟩, msig (by decide +kernel)⟩
theorem cal_181 : mCal 181 1 := ⟨gw_752, gw_1, ⟨by decide +kernel, by decide +kernel⟩, msig (by decide +kernel)⟩
theorem cal_182 : mCal 182 1 := ⟨gw_588, gw_1, ⟨by decide +kernel, by decide +kernel⟩, msig (by decide +kernel)⟩
theorem cal_183 : mCal 183 1 := ⟨gw_1309, gw_1, ⟨by decide +kernel, by decide +kernel⟩, msig (by decide +kernel)⟩
theorem cal_184 : mCal 184 3 := ⟨gw_633, gw_1, ⟨by decide +kernel, by decide +kernel⟩, msig (by decide +kernel)⟩
theorem cal_185 : mCal 185 1 := ⟨gw_78, gw_1, ⟨by decide +kernel, by decide +kernel⟩, msig (by decide +kernel)⟩
theorem cal_186 : mCal 186 1 := ⟨gw_644, gw_1, ⟨by decide +kernel, by decide +kernel⟩, msig (by decide +kernel)⟩
theorem cal_187 : mCal 187 2 := ⟨gw_647, gw_1, ⟨by decide +kernel, by decide +kernel⟩, msig (by decide +kernel)⟩
theorem cal_188 : mCal 188 1 := ⟨gw_671, gw_1, ⟨by decide +kernel, by decide +kernel⟩, msig (by decide +kernel)⟩
theorem cal_189 : mCal 189 0 := ⟨gw_964, gw_1, ⟨by decide +kernel, by decide +kernel⟩, msig (by decide +kernel)⟩
theorem cal_190 : mCal 190 2 := ⟨gw_852, gw_1, ⟨by decide +kernel, by decide +kernel⟩, msig (by decide +kernel)⟩
theorem cal_191 : mCal 191 3 := ⟨gw_835, gw_1, ⟨by decide +kernel, by decide +kernel⟩, msig (by decide +kernel)⟩
theorem cal_192 : mCal 192 2 := ⟨gw_838, gw_1, ⟨by decide +kernel, by decide +kernel⟩, msig (by decide +kernel)⟩
theorem cal_193 : mCal 193 2 := ⟨gw_692, gw_1, ⟨by decide +kernel, by decide +kernel⟩, msig (by decide +kernel)⟩
theorem cal_194 : mCal 194 2 := ⟨gw_1291, gw_1, ⟨by decide +kernel, by decide +kernel⟩, msig (by decide +kernel)⟩
theorem cal_195 : mCal 195 2 := ⟨gw_1300, gw_1, ⟨by decide +kernel, by decide +kernel⟩, msig (by decide +kernel)⟩
theorem cal_196 : mCal 196 1 := ⟨gw_1305, gw_1, ⟨by decide +kernel, by decide +kernel⟩, msig (by decide +kernel)⟩
theorem cal_197 : mCal 197 1 := ⟨gw_383, gw_1, ⟨by decide +kernel, by decide +kernel⟩, msig (by decide +kernel)⟩
theorem cal_198 : mCal 198 1 := ⟨gw_387, gw_1, ⟨by decide +kernel, by decide +kernel⟩, msig (by decide +kernel)⟩
theorem cal_199 : mCal 199 1 := ⟨gw_411, gw_1, ⟨by decide +kernel, by decide +kernel⟩, msig (by decide +kernel)⟩
theorem cal_200 : mCal 200 3 := ⟨gw_1372, gw_1, ⟨by decide +kernel, by decide +kernel⟩, msig (by decide +kernel)⟩
theorem cal_201 : mCal 201 4 := ⟨gw_1395, gw_1, ⟨by decide +kernel, by decide +kernel⟩, msig (by decide +kernel)⟩
theorem cal_202 : mCal 202 1 := ⟨gw_1376, gw_1, ⟨by decide +kernel, by decide +kernel⟩, msig (by decide +kernel)⟩
theorem cal_203 : mCal 203 2 := ⟨gw_1420, gw_1, ⟨by decide +kernel, by decide +kernel⟩, msig (by decide +kernel)⟩
theorem cal_204 : mCal 204 2 := ⟨gw_1425, gw_1, ⟨by decide +kernel, by decide +kernel⟩, msig (by decide +kernel)⟩
theorem cal_205 : mCal 205 3 := ⟨gw_1429, gw_1, ⟨by decide +kernel, by decide +kernel⟩, msig (by decide +kernel)⟩
theorem cal_206 : mCal 206 2 := ⟨gw_1433, gw_1, ⟨by decide +kernel, by decide +kernel⟩, msig (by decide +kernel)⟩
theorem cal_207 : mCal 207 0 := ⟨gw_1438, gw_13, ⟨by decide +kernel, by decide +kernel⟩, msig (by decide +kernel)⟩
theorem ini_207 : decide ((mY 207).name = "<init>") = true := by decide +kernel
theorem cal_208 : mCal 208 3 := ⟨gw_1443, gw_13, ⟨by decide +kernel, by decide +kernel⟩, msig (by decide +kernel)⟩
theorem cal_209 : mCal 209 0 := ⟨gw_1662, gw_13, ⟨by decide +kernel, by decide +kernel⟩, msig (by decide +kernel)⟩
theorem cal_210 : mCal 210 1 := ⟨gw_1677, gw_13, ⟨by decide +kernel, by decide +kernel⟩, msig (by decide +kernel)⟩
theorem cal_211 : mCal 211 3 := ⟨gw_1673, gw_13, ⟨by decide +kernel, by decide +kernel⟩, msig (by decide +kernel)⟩
theorem cal_212 : mCal 212 1 := ⟨gw_1687, gw_13, ⟨by decide +kernel, by decide +kernel⟩, msig (by decide +kernel)⟩
theorem cal_213 : mCal 213 1 := ⟨gw_1684, gw_13, ⟨by decide +kernel, by decide +kernel⟩, msig (by decide +kernel)⟩
theorem cal_214 : mCal 214 1 := ⟨gw_1792, gw_13, ⟨by decide +kernel, by decide +kernel⟩, msig (by decide +kernel)⟩
theorem cal_215 : mCal 215 1 := ⟨gw_1706, gw_13, ⟨by decide +kernel, by decide +kernel⟩, msig (by decide +kernel)⟩
theorem cal_216 : mCal 216 1 := ⟨gw_2014, gw_13, ⟨by decide +kernel, by decide +kernel⟩, msig (by decide +kernel)⟩
theorem cal_217 : mCal 217 1 := ⟨gw_1670, gw_13, ⟨by decide +kernel, by decide +kernel⟩, msig (by decide +kernel)⟩
theorem cal_218 : mCal 218 1 := ⟨gw_1901, gw_13, ⟨by decide +kernel, by decide +kernel⟩, msig (by decide +kernel)⟩
theorem cal_219 : mCal 219 1 := ⟨gw_1721, gw_13, ⟨by decide +kernel, by decide +kernel⟩, msig (by decide +kernel)⟩
theorem cal_220 : mCal 220 1 := ⟨gw_1666, gw_13, ⟨by decide +kernel, by decide +kernel⟩, msig (by decide +kernel)⟩
theorem cal_221 : mCal 221 2 := ⟨gw_1691, gw_13, ⟨by decide +kernel, by decide +kernel⟩, msig (by decide +kernel)⟩
theorem cal_222 : mCal 222 3 := ⟨gw_1681, gw_13, ⟨by decide +kernel, by decide +kernel⟩, msig (by decide +kernel)⟩
theorem cal_223 : mCal 223 1 := ⟨gw_1703, gw_13, ⟨by decide +kernel, by decide +kernel⟩, msig (by decide +kernel)⟩
theorem cal_224 : mCal 224 0 := ⟨gw_1699, gw_13, ⟨by decide +kernel, by decide +kernel⟩, msig (by decide +kernel)⟩
theorem cal_225 : mCal 225 0 := ⟨gw_1695, gw_13, ⟨by decide +kernel, by decide +kernel⟩, msig (by decide +kernel)⟩
theorem cal_226 : mCal 226 0 := ⟨gw_1710, gw_13, ⟨by decide +kernel, by decide +kernel⟩, msig (by decide +kernel)⟩
theorem cal_227 : mCal 227 1 := ⟨gw_1905, gw_13, ⟨by decide +kernel, by decide +kernel⟩, msig (by decide +kernel)⟩
theorem cal_228 : mCal 228 1 := ⟨gw_1913, gw_13, ⟨by decide +kernel, by decide +kernel⟩, msig (by decide +kernel)⟩
theorem cal_229 : mCal 229 0 := ⟨gw_1909, gw_13, ⟨by decide +kernel, by decide +kernel⟩, msig (by decide +kernel)⟩
theorem cal_230 : mCal 230 1 := ⟨gw_1742, gw_13, ⟨by decide +kernel, by decide +kernel⟩, msig (by decide +kernel)⟩
theorem cal_231 : mCal 231 2 := ⟨gw_1739, gw_13, ⟨by decide +kernel, by decide +kernel⟩, msig (by decide +kernel)⟩
theorem cal_232 : mCal 232 2 := ⟨gw_1750, gw_13, ⟨by decide +kernel, by decide +kernel⟩, msig (by decide +kernel)⟩
theorem cal_233 : mCal 233 2 := ⟨gw_1812, gw_13, ⟨by decide +kernel, by decide +kernel⟩, msig (by decide +kernel)⟩
theorem cal_234 : mCal 234 1 := ⟨gw_1447, gw_13, ⟨by decide +kernel, by decide +kernel⟩, msig (by decide +kernel)⟩
theorem cal_235 : mCal 235 2 := ⟨gw_1848, gw_13, ⟨by decide +kernel, by decide +kernel⟩, msig (by decide +kernel)⟩
theorem cal_236 : mCal 236 2 := ⟨gw_1852, gw_13, ⟨by decide +kernel, by decide +kernel⟩, msig (by decide +kernel)⟩
theorem cal_237 : mCal 237 4 := ⟨gw_1860, gw_13, ⟨by decide +kernel, by decide +kernel⟩, msig (by decide +kernel)⟩
theorem cal_238 : mCal 238 2 := ⟨gw_1753, gw_13, ⟨by decide +kernel, by decide +kernel⟩, msig (by decide +kernel)⟩
theorem cal_239 : mCal 239 1 := ⟨gw_1736, gw_13, ⟨by decide +kernel, by decide +kernel⟩, msig (by decide +kernel)⟩
theorem cal_240 : mCal 240 3 := ⟨gw_1746, gw_13, ⟨by decide +kernel, by decide +kernel⟩, msig (by decide +kernel)⟩
theorem cal_241 : mCal 241 4 := ⟨gw_1733, gw_13, ⟨by decide +kernel, by decide +kernel⟩, msig (by decide +kernel)⟩
theorem cal_242 : mCal 242 4 := ⟨gw_1864, gw_13, ⟨by decide +kernel, by decide +kernel⟩, msig (by decide +kernel)⟩
theorem cal_243 : mCal 243 4 := ⟨gw_1856, gw_13, ⟨by decide +kernel, by decide +kernel⟩, msig (by decide +kernel)⟩
theorem cal_244 : mCal 244 4 := ⟨gw_1844, gw_13, ⟨by decide +kernel, by decide +kernel⟩, msig (by decide +kernel)⟩
theorem cal_245 : mCal 245 0 := ⟨gw_1729, gw_13, ⟨by decide +kernel, by decide +kernel⟩, msig (by decide +kernel)⟩
theorem cal_246 : mCal 246 0 := ⟨gw_1714, gw_13, ⟨by decide +kernel, by decide +kernel⟩, msig (by decide +kernel)⟩
theorem cal_247 : mCal 247 0 := ⟨gw_1725, gw_13, ⟨by decide +kernel, by decide +kernel⟩, msig (by decide +kernel)⟩
theorem cal_248 : mCal 248 2 := ⟨gw_1718, gw_13, ⟨by decide +kernel, by decide +kernel⟩, msig (by decide +kernel)⟩
theorem cal_249 : mCal 249 2 := ⟨gw_1872, gw_13, ⟨by decide +kernel, by decide +kernel⟩, msig (by decide +kernel)⟩
theorem cal_250 : mCal 250 1 := ⟨gw_1876, gw_13, ⟨by decide +kernel, by decide +kernel⟩, msig (by decide +kernel)⟩
theorem cal_251 : mCal 251 2 := ⟨gw_1868, gw_13, ⟨by decide +kernel, by decide +kernel⟩, msig (by decide +kernel)⟩
theorem cal_252 : mCal 252 3 := ⟨gw_1880, gw_13, ⟨by decide +kernel, by decide +kernel⟩, msig (by decide +kernel)⟩
theorem cal_253 : mCal 253 1 := ⟨gw_1884, gw_13, ⟨by decide +kernel, by decide +kernel⟩, msig (by decide +kernel)⟩
theorem cal_254 : mCal 254 2 := ⟨gw_1888, gw_13, ⟨by decide +kernel, by decide +kernel⟩, msig (by decide +kernel)⟩
theorem cal_255 : mCal 255 4 := ⟨gw_1800, gw_13, ⟨by decide +kernel, by decide +kernel⟩, msig (by decide +kernel)⟩
theorem cal_256 : mCal 256 3 := ⟨gw_1816, gw_13, ⟨by decide +kernel, by decide +kernel⟩, msig (by decide +kernel)⟩
theorem cal_257 : mCal 257 2 := ⟨gw_1808, gw_13, ⟨by decide +kernel, by decide +kernel⟩, msig (by decide +kernel)⟩
theorem cal_258 : mCal 258 2 := ⟨gw_1796, gw_13, ⟨by decide +kernel, by decide +kernel⟩, msig (by decide +kernel)⟩
theorem cal_259 : mCal 259 2 := ⟨gw_1804, gw_13, ⟨by decide +kernel, by decide +kernel⟩, msig (by decide +kernel)⟩
theorem cal_260 : mCal 260 1 := ⟨gw_1789, gw_13, ⟨by decide +kernel, by decide +kernel⟩, msig (by decide +kernel)⟩
theorem cal_261 : mCal 261 1 := ⟨gw_1824, gw_13, ⟨by decide +kernel, by decide +kernel⟩, msig (by decide +kernel)⟩
theorem cal_262 : mCal 262 2 := ⟨gw_1820, gw_13, ⟨by decide +kernel, by decide +kernel⟩, msig (by decide +kernel)⟩
theorem cal_263 : mCal 263 1 := ⟨gw_1832, gw_13, ⟨by decide +kernel, by decide +kernel⟩, msig (by decide +kernel)⟩
theorem cal_264 : mCal 264 0 := ⟨gw_1828, gw_13, ⟨by decide +kernel, by decide +kernel⟩, msig (by decide +kernel)⟩
theorem cal_265 : mCal 265 2 := ⟨gw_1785, gw_13, ⟨by decide +kernel, by decide +kernel⟩, msig (by decide +kernel)⟩
theorem cal_266 : mCal 266 0 := ⟨gw_1836, gw_13, ⟨by decide +kernel, by decide +kernel⟩, msig (by decide +kernel)⟩
theorem cal_267 : mCal 267 0 := ⟨gw_1840, gw_13, ⟨by decide +kernel, by decide +kernel⟩, msig (by decide +kernel)⟩
theorem cal_268 : mCal 268 0 := ⟨gw_1893, gw_13, ⟨by decide +kernel, by decide +kernel⟩, msig (by decide +kernel)⟩
theorem cal_269 : mCal 269 3 := ⟨gw_1897, gw_13, ⟨by decide +kernel, by decide +kernel⟩, msig (by decide +kernel)⟩
theorem cal_270 : mCal 270 3 := ⟨gw_1917, gw_13, ⟨by decide +kernel, by decide +kernel⟩, msig (by decide +kernel)⟩
theorem cal_271 : mCal 271 1 := ⟨gw_1924, gw_13, ⟨by decide +kernel, by decide +kernel⟩, msig (by decide +kernel)⟩
theorem cal_272 : mCal 272 4 := ⟨gw_1921, gw_13, ⟨by decide +kernel, by decide +kernel⟩, msig (by decide +kernel)⟩
theorem cal_273 : mCal 273 4 := ⟨gw_1936, gw_13, ⟨by decide +kernel, by decide +kernel⟩, msig (by decide +kernel)⟩
theorem cal_274 : mCal 274 4 := ⟨gw_1932, gw_13, ⟨by decide +kernel, by decide +kernel⟩, msig (by decide +kernel)⟩
theorem cal_275 : mCal 275 4 := ⟨gw_1928, gw_13, ⟨by decide +kernel, by decide +kernel⟩, msig (by decide +kernel)⟩
theorem cal_276 : mCal 276 4 := ⟨gw_1940, gw_13, ⟨by decide +kernel, by decide +kernel⟩, msig (by decide +kernel)⟩
theorem cal_277 : mCal 277 2 := ⟨gw_1952, gw_13, ⟨by decide +kernel, by decide +kernel⟩, msig (by decide +kernel)⟩
theorem cal_278 : mCal 278 3 := ⟨gw_1956, gw_13, ⟨by decide +kernel, by decide +kernel⟩, msig (by decide +kernel)⟩
theorem cal_279 : mCal 279 5 := ⟨gw_1948, gw_13, ⟨by decide +kernel, by decide +kernel⟩, msig (by decide +kernel)⟩
theorem cal_280 : mCal 280 5 := ⟨gw_1944, gw_13, ⟨by decide +kernel, by decide +kernel⟩, msig (by decide +kernel)⟩
theorem cal_281 : mCal 281 2 := ⟨gw_1960, gw_13, ⟨by decide +kernel, by decide +kernel⟩, msig (by decide +kernel)⟩
theorem cal_282 : mCal 282 1 := ⟨gw_1968, gw_13, ⟨by decide +kernel, by decide +kernel⟩, msig (by decide +kernel)⟩
theorem cal_283 : mCal 283 3 := ⟨gw_1964, gw_13, ⟨by decide +kernel, by decide +kernel⟩, msig (by decide +kernel)⟩
theorem cal_284 : mCal 284 3 := ⟨gw_1972, gw_13, ⟨by decide +kernel, by decide +kernel⟩, msig (by decide +kernel)⟩
theorem cal_285 : mCal 285 2 := ⟨gw_1980, gw_13, ⟨by decide +kernel, by decide +kernel⟩, msig (by decide +kernel)⟩
theorem cal_286 : mCal 286 3 := ⟨gw_1976, gw_13, ⟨by decide +kernel, by decide +kernel⟩, msig (by decide +kernel)⟩
theorem cal_287 : mCal 287 3 := ⟨gw_1984, gw_13, ⟨by decide +kernel, by decide +kernel⟩, msig (by decide +kernel)⟩
theorem cal_288 : mCal 288 0 := ⟨gw_1988, gw_13, ⟨by decide +kernel, by decide +kernel⟩, msig (by decide +kernel)⟩
theorem cal_289 : mCal 289 1 := ⟨gw_1781, gw_13, ⟨by decide +kernel, by decide +kernel⟩, msig (by decide +kernel)⟩
theorem cal_290 : mCal 290 3 := ⟨gw_1777, gw_13, ⟨by decide +kernel, by decide +kernel⟩, msig (by decide +kernel)⟩
theorem cal_291 : mCal 291 2 := ⟨gw_1765, gw_13, ⟨by decide +kernel, by decide +kernel⟩, msig (by decide +kernel)⟩
theorem cal_292 : mCal 292 1 := ⟨gw_1773, gw_13, ⟨by decide +kernel, by decide +kernel⟩, msig (by decide +kernel)⟩
theorem cal_293 : mCal 293 3 := ⟨gw_1769, gw_13, ⟨by decide +kernel, by decide +kernel⟩, msig (by decide +kernel)⟩
theorem cal_294 : mCal 294 1 := ⟨gw_1761, gw_13, ⟨by decide +kernel, by decide +kernel⟩, msig (by decide +kernel)⟩
theorem cal_295 : mCal 295 1 := ⟨gw_1757, gw_13, ⟨by decide +kernel, by decide +kernel⟩, msig (by decide +kernel)⟩
theorem cal_296 : mCal 296 1 := ⟨gw_1995, gw_13, ⟨by decide +kernel, by decide +kernel⟩, msig (by decide +kernel)⟩
theorem cal_297 : mCal 297 2 := ⟨gw_1992, gw_13, ⟨by decide +kernel, by decide +kernel⟩, msig (by decide +kernel)⟩
theorem cal_298 : mCal 298 1 := ⟨gw_1999, gw_13, ⟨by decide +kernel, by decide +kernel⟩, msig (by decide +kernel)⟩
theorem cal_299 : mCal 299 2 := ⟨gw_2011, gw_13, ⟨by decide +kernel, by decide +kernel⟩, msig (by decide +kernel)⟩
theorem cal_300 : mCal 300 2 := ⟨gw_2007, gw_13, ⟨by decide +kernel, by decide +kernel⟩, msig (by decide +kernel)⟩
theorem cal_301 : mCal 301 2 := ⟨gw_2003, gw_13, ⟨by decide +kernel, by decide +kernel⟩, msig (by decide +kernel)⟩
theorem cal_302 : mCal 302 3 := ⟨gw_2026, gw_13, ⟨by decide +kernel, by decide +kernel⟩, msig (by decide +kernel)⟩
theorem cal_303 : mCal 303 3 := ⟨gw_2030, gw_13, ⟨by decide +kernel, by decide +kernel⟩, msig (by decide +kernel)⟩
theorem cal_304 : mCal 304 1 := ⟨gw_2034, gw_13, ⟨by decide +kernel, by decide +kernel⟩, msig (by decide +kernel)⟩
theorem cal_305 : mCal 305 1 := ⟨gw_2022, gw_13, ⟨by decide +kernel, by decide +kernel⟩, msig (by decide +kernel)⟩
theorem cal_306 : mCal 306 2 := ⟨gw_2018, gw_13, ⟨by decide +kernel, by decide +kernel⟩, msig (by decide +kernel)⟩
theorem cal_307 : mCal 307 1 := ⟨gw_2047, gw_13, ⟨by decide +kernel, by decide +kernel⟩, msig (by decide +kernel)⟩
theorem cal_308 : mCal 308 1 := ⟨gw_2043, gw_13, ⟨by decide +kernel, by decide +kernel⟩, msig (by decide +kernel)⟩
theorem cal_309 : mCal 309 1 := ⟨gw_2039, gw_13, ⟨by decide +kernel, by decide +kernel⟩, msig (by decide +kernel)⟩
theorem cal_310 : mCal 310 0 := ⟨gw_2051, gw_13, ⟨by decide +kernel, by decide +kernel⟩, msig (by decide +kernel)⟩
theorem cal_311 : mCal 311 1 := ⟨gw_2071, gw_13, ⟨by decide +kernel, by decide +kernel⟩, msig (by decide +kernel)⟩
theorem cal_312 : mCal 312 1 := ⟨gw_2055, gw_13, ⟨by decide +kernel, by decide +kernel⟩, msig (by decide +kernel)⟩
theorem cal_313 : mCal 313 2 := ⟨gw_2063, gw_13, ⟨by decide +kernel, by decide +kernel⟩, msig (by decide +kernel)⟩
theorem cal_314 : mCal 314 2 := ⟨gw_2059, gw_13, ⟨by decide +kernel, by decide +kernel⟩, msig (by decide +kernel)⟩
theorem cal_315 : mCal 315 2 := ⟨gw_2067, gw_13, ⟨by decide +kernel, by decide +kernel⟩, msig (by decide +kernel)⟩
theorem cal_316 : mCal 316 2 := ⟨gw_2079, gw_13, ⟨by decide +kernel, by decide +kernel⟩, msig (by decide +kernel)⟩
theorem cal_317 : mCal 317 3 := ⟨gw_2083, gw_13, ⟨by decide +kernel, by decide +kernel⟩, msig (by decide +kernel)⟩
theorem cal_318 : mCal 318 3 := ⟨gw_2075, gw_13, ⟨by decide +kernel, by decide +kernel⟩, msig (by decide +kernel)⟩
theorem cal_319 : mCal 319 2 := ⟨gw_2087, gw_13, ⟨by decide +kernel, by decide +kernel⟩, msig (by decide +kernel)⟩
theorem cal_320 : mCal 320 1 := ⟨gw_2099, gw_13, ⟨by decide +kernel, by decide +kernel⟩, msig (by decide +kernel)⟩
theorem cal_321 : mCal 321 1 := ⟨gw_2095, gw_13, ⟨by decide +kernel, by decide +kernel⟩, msig (by decide +kernel)⟩
theorem cal_322 : mCal 322 0 := ⟨gw_2091, gw_13, ⟨by decide +kernel, by decide +kernel⟩, msig (by decide +kernel)⟩
theorem cal_323 : mCal 323 2 := ⟨gw_2103, gw_13, ⟨by decide +kernel, by decide +kernel⟩, msig (by decide +kernel)⟩
theorem cal_324 : mCal 324 1 := ⟨gw_2115, gw_13, ⟨by decide +kernel, by decide +kernel⟩, msig (by decide +kernel)⟩
theorem cal_325 : mCal 325 2 := ⟨gw_2111, gw_13, ⟨by decide +kernel, by decide +kernel⟩, msig (by decide +kernel)⟩
theorem cal_326 : mCal 326 2 := ⟨gw_2107, gw_13, ⟨by decide +kernel, by decide +kernel⟩, msig (by decide +kernel)⟩
theorem cal_327 : mCal 327 2 := ⟨gw_844, gw_20, ⟨by decide +kernel, by decide +kernel⟩, msig (by decide +kernel)⟩
theorem cal_328 : mCal 328 1 := ⟨gw_1387, gw_20, ⟨by decide +kernel, by decide +kernel⟩, msig (by decide +kernel)⟩
theorem cal_329 : mCal 329 2 := ⟨gw_54, gw_4, ⟨by decide +kernel, by decide +kernel⟩, msig (by decide +kernel)⟩
theorem cal_330 : mCal 330 2 := ⟨gw_841, gw_4, ⟨by decide +kernel, by decide +kernel⟩, msig (by decide +kernel)⟩
theorem cal_331 : mCal 331 3 := ⟨gw_418, gw_0, ⟨by decide +kernel, by decide +kernel⟩, msig (by decide +kernel)⟩
theorem cal_332 : mCal 332 5 := ⟨gw_524, gw_0, ⟨by decide +kernel, by decide +kernel⟩, msig (by decide +kernel)⟩
theorem cal_333 : mCal 333 2 := ⟨gw_555, gw_0, ⟨by decide +kernel, by decide +kernel⟩, msig (by decide +kernel)⟩
theorem cal_334 : mCal 334 2 := ⟨gw_597, gw_0, ⟨by decide +kernel, by decide +kernel⟩, msig (by decide +kernel)⟩
theorem cal_335 : mCal 335 4 := ⟨gw_605, gw_0, ⟨by decide +kernel, by decide +kernel⟩, msig (by decide +kernel)⟩
theorem cal_336 : mCal 336 4 := ⟨gw_896, gw_0, ⟨by decide +kernel, by decide +kernel⟩, msig (by decide +kernel)⟩
theorem cal_337 : mCal 337 5 := ⟨gw_916, gw_0, ⟨by decide +kernel, by decide +kernel⟩, msig (by decide +kernel)⟩
theorem cal_338 : mCal 338 4 := ⟨gw_929, gw_0, ⟨by decide +kernel, by decide +kernel⟩, msig (by decide +kernel)⟩
theorem cal_339 : mCal 339 5 := ⟨gw_937, gw_0, ⟨by decide +kernel, by decide +kernel⟩, msig (by decide +kernel)⟩
theorem cal_340 : mCal 340 5 := ⟨gw_971, gw_0, ⟨by decide +kernel, by decide +kernel⟩, msig (by decide +kernel)⟩
theorem cal_341 : mCal 341 5 := ⟨gw_988, gw_0, ⟨by decide +kernel, by decide +kernel⟩, msig (by decide +kernel)⟩
theorem cal_342 : mCal 342 5 := ⟨gw_1018, gw_0, ⟨by decide +kernel, by decide +kernel⟩, msig (by decide +kernel)⟩
theorem cal_343 : mCal 343 3 := ⟨gw_1030, gw_0, ⟨by decide +kernel, by decide +kernel⟩, msig (by decide +kernel)⟩
theorem cal_344 : mCal 344 4 := ⟨gw_1049, gw_0, ⟨by decide +kernel, by decide +kernel⟩, msig (by decide +kernel)⟩
theorem cal_345 : mCal 345 4 := ⟨gw_1062, gw_0, ⟨by decide +kernel, by decide +kernel⟩, msig (by decide +kernel)⟩
theorem cal_346 : mCal 346 4 := ⟨gw_1089, gw_0, ⟨by decide +kernel, by decide +kernel⟩, msig (by decide +kernel)⟩
theorem cal_347 : mCal 347 2 := ⟨gw_1113, gw_0, ⟨by decide +kernel, by decide +kernel⟩, msig (by decide +kernel)⟩
theorem cal_348 : mCal 348 4 := ⟨gw_1143, gw_0, ⟨by decide +kernel, by decide +kernel⟩, msig (by decide +kernel)⟩
theorem cal_349 : mCal 349 5 := ⟨gw_1154, gw_0, ⟨by decide +kernel, by decide +kernel⟩, msig (by decide +kernel)⟩
theorem cal_350 : mCal 350 3 := ⟨gw_1168, gw_0, ⟨by decide +kernel, by decide +kernel⟩, msig (by decide +kernel)⟩
theorem cal_351 : mCal 351 4 := ⟨gw_1175, gw_0, ⟨by decide +kernel, by decide +kernel⟩, msig (by decide +kernel)⟩
theorem cal_352 : mCal 352 5 := ⟨gw_1192, gw_0, ⟨by decide +kernel, by decide +kernel⟩, msig (by decide +kernel)⟩
theorem cal_353 : mCal 353 6 := ⟨gw_1208, gw_0, ⟨by decide +kernel, by decide +kernel⟩, msig (by decide +kernel)⟩
theorem cal_354 : mCal 354 6 := ⟨gw_1224, gw_0, ⟨by decide +kernel, by decide +kernel⟩, msig (by decide +kernel)⟩
theorem cal_355 : mCal 355 6 := ⟨gw_1237, gw_0, ⟨by decide +kernel, by decide +kernel⟩, msig (by decide +kernel)⟩
theorem cal_356 : mCal 356 7 := ⟨gw_1248, gw_0, ⟨by decide +kernel, by decide +kernel⟩, msig (by decide +kernel)⟩
theorem cal_357 : mCal 357 4 := ⟨gw_1270, gw_0, ⟨by decide +kernel, by decide +kernel⟩, msig (by decide +kernel)⟩
theorem cal_358 : mCal 358 4 := ⟨gw_1278, gw_0, ⟨by decide +kernel, by decide +kernel⟩, msig (by decide +kernel)⟩
theorem cal_359 : mCal 359 4 := ⟨gw_1312, gw_0, ⟨by decide +kernel, by decide +kernel⟩, msig (by decide +kernel)⟩
theorem cal_360 : mCal 360 3 := ⟨gw_1345, gw_0, ⟨by decide +kernel, by decide +kernel⟩, msig (by decide +kernel)⟩
theorem cal_361 : mCal 361 3 := ⟨gw_1352, gw_0, ⟨by decide +kernel, by decide +kernel⟩, msig (by decide +kernel)⟩
theorem cal_362 : mCal 362 4 := ⟨gw_1364, gw_0, ⟨by decide +kernel, by decide +kernel⟩, msig (by decide +kernel)⟩
theorem cal_363 : mCal 363 5 := ⟨gw_1398, gw_0, ⟨by decide +kernel, by decide +kernel⟩, msig (by decide +kernel)⟩
theorem at_0 : ∀ w ∈ vx_atS "Collationer" 113 (pE 0) mThr, w ∈ mGd ∨ w = .castable (pE 0) (pE 0) ∨ w ∈ mnw := by decide +kernel
theorem at_1 : ∀ w ∈ vx_atS "Collationer" 124 (pE 2) mThr, w ∈ mGd ∨ w = .castable (pE 2) (pE 2) ∨ w ∈ mnw := by decide +kernel
theorem at_2 : ∀ w ∈ vx_atS "Collationer" 183 (pE 1) mThr, w ∈ mGd ∨ w = .castable (pE 1) (pE 1) ∨ w ∈ mnw := by decide +kernel