/-! Static facts of the program: callees, throws. -/

/-- the program -/
def mPg : mProg := (fun k pc => bif Nat.blt k 365 then mlook (mtab k) pc else none, mCt, mN, mfd, mnf)
abbrev mT (k pc : Nat) (e : mE) : Prop := mTh mGd mnw mstrs mcl mft mPg mY mC mRt mHn mDp k pc e
theorem mIfN {c A B : Prop} [Decidable c] (h : ¬ c) (b : B) : if c then A else B := by rw [if_neg h]; exact b
theorem mIfP {c A B : Prop} [Decidable c] (h : c) (a : A) : if c then A else B := by rw [if_pos h]; exact a
theorem msig {d : String} {n : Nat} (h : (parseMethodDescriptor d).map (fun s => s.parameters.length) = some n) : ∀ sig, parseMethodDescriptor d = some sig → n = sig.parameters.length := by
  intro sig hs
  rw [hs] at h
  exact (Option.some.inj h).symm
def mCal (k nn : Nat) : Prop := mwd (mY k) (mC k) (mPg.2.2.1 k) (mRt k) (mHn k) ∈ mGd ∧ Cond.initialized (mY k).cls ∈ mGd ∧ ((mY k).cls ≠ "java/lang/invoke/MethodHandle" ∧ (mY k).cls ≠ "java/lang/invoke/VarHandle") ∧ ∀ sig, parseMethodDescriptor (mY k).desc = some sig → nn = sig.parameters.length
/-- entries whose facts are none, or a sum -/
def mTriv (q : Nat × mE) : Bool := match q.2.1 with
  | .goto off => decide ((q.1 : Int) + off = (q.2.2.2.1 : Int))
  | .ifCond _ off => decide ((q.1 : Int) + off = (q.2.2.2.1 : Int))
  | .if_icmp _ off => decide ((q.1 : Int) + off = (q.2.2.2.1 : Int))
  | .ldc _ | .ldc_w _ | .getfield _ | .putfield _ | .getstatic _ | .aaload | .aastore | .newarray _ | .anewarray _ | .new _ | .invokestatic _ | .invokevirtual _ | .invokespecial _ | .ireturn | .lreturn | .areturn | .return_ => false
  | _ => true
theorem mTriv_ok {k : Nat} {q : Nat × mE} (h : mTriv q = true) : mT k q.1 q.2 := by
  obtain ⟨pc, i, n, a, b, c⟩ := q
  cases i <;> first
    | exact trivial
    | (cases h; done)
    | (have h2 : (pc : Int) + _ = (a : Int) := of_decide_eq_true h
       exact h2)
def mAllP (k : Nat) : List (Nat × mE) → Prop
  | [] => True
  | q :: l => bif mTriv q then mAllP k l else mT k q.1 q.2 ∧ mAllP k l
theorem mAllP_mem {k : Nat} : ∀ {l : List (Nat × mE)}, mAllP k l → ∀ q ∈ l, mT k q.1 q.2 := by
  intro l
  induction l with
  | nil => intro _ q hq; cases hq
  | cons q l ih =>
    intro h q' hq'
    unfold mAllP at h
    cases ht : mTriv q with
    | true =>
      rw [ht] at h
      rcases List.mem_cons.mp hq' with rfl | hq'
      · exact mTriv_ok ht
      · exact ih h q' hq'
    | false =>
      rw [ht] at h
      rcases List.mem_cons.mp hq' with rfl | hq'
      · exact h.1
      · exact ih h.2 q' hq'
theorem mA1 {k : Nat} {q : Nat × mE} {l : List (Nat × mE)} (ht : mTriv q = false) (h : mT k q.1 q.2) (hl : mAllP k l) : mAllP k (q :: l) := by
  unfold mAllP; rw [ht]; exact ⟨h, hl⟩
theorem mA0 {k : Nat} {q : Nat × mE} {l : List (Nat × mE)} (ht : mTriv q = true) (hl : mAllP k l) : mAllP k (q :: l) := by
  unfold mAllP; rw [ht]; exact hl
theorem mNoneL : ∀ k, k < 365 → mlook (mtab k) 100000 = none := by decide +kernel
theorem mNone (k : Nat) : mPg.1 k 100000 = none := by
  show (bif Nat.blt k 365 then mlook (mtab k) 100000 else none) = none
  cases h : Nat.blt k 365 with
  | false => rfl
  | true => exact mNoneL k (by simpa using h)

theorem cal_0 : mCal 0 0 := ⟨gw_174, gw_8, ⟨by decide +kernel, by decide +kernel⟩, msig (by decide +kernel)⟩
theorem ini_0 : decide ((mY 0).name = "<init>") = true := by decide +kernel
theorem cal_2 : mCal 2 4 := ⟨gw_506, gw_8, ⟨by decide +kernel, by decide +kernel⟩, msig (by decide +kernel)⟩
theorem cal_3 : mCal 3 1 := ⟨gw_624, gw_8, ⟨by decide +kernel, by decide +kernel⟩, msig (by decide +kernel)⟩
theorem cal_4 : mCal 4 2 := ⟨gw_621, gw_8, ⟨by decide +kernel, by decide +kernel⟩, msig (by decide +kernel)⟩
theorem cal_5 : mCal 5 2 := ⟨gw_612, gw_8, ⟨by decide +kernel, by decide +kernel⟩, msig (by decide +kernel)⟩
theorem cal_6 : mCal 6 3 := ⟨gw_617, gw_8, ⟨by decide +kernel, by decide +kernel⟩, msig (by decide +kernel)⟩
theorem cal_7 : mCal 7 4 := ⟨gw_1221, gw_8, ⟨by decide +kernel, by decide +kernel⟩, msig (by decide +kernel)⟩
theorem cal_8 : mCal 8 4 := ⟨gw_1202, gw_8, ⟨by decide +kernel, by decide +kernel⟩, msig (by decide +kernel)⟩
theorem cal_9 : mCal 9 4 := ⟨gw_1212, gw_8, ⟨by decide +kernel, by decide +kernel⟩, msig (by decide +kernel)⟩
theorem cal_12 : mCal 12 0 := ⟨gw_32, gw_2, ⟨by decide +kernel, by decide +kernel⟩, msig (by decide +kernel)⟩
theorem ini_12 : decide ((mY 12).name = "<init>") = true := by decide +kernel
theorem cal_13 : mCal 13 0 := ⟨gw_859, gw_2, ⟨by decide +kernel, by decide +kernel⟩, msig (by decide +kernel)⟩
theorem cal_14 : mCal 14 1 := ⟨gw_828, gw_2, ⟨by decide +kernel, by decide +kernel⟩, msig (by decide +kernel)⟩
theorem cal_15 : mCal 15 1 := ⟨gw_832, gw_2, ⟨by decide +kernel, by decide +kernel⟩, msig (by decide +kernel)⟩
theorem cal_16 : mCal 16 1 := ⟨gw_881, gw_2, ⟨by decide +kernel, by decide +kernel⟩, msig (by decide +kernel)⟩
theorem cal_17 : mCal 17 1 := ⟨gw_842, gw_2, ⟨by decide +kernel, by decide +kernel⟩, msig (by decide +kernel)⟩
theorem cal_18 : mCal 18 3 := ⟨gw_855, gw_2, ⟨by decide +kernel, by decide +kernel⟩, msig (by decide +kernel)⟩
theorem cal_19 : mCal 19 2 := ⟨gw_850, gw_2, ⟨by decide +kernel, by decide +kernel⟩, msig (by decide +kernel)⟩
theorem cal_20 : mCal 20 2 := ⟨gw_868, gw_2, ⟨by decide +kernel, by decide +kernel⟩, msig (by decide +kernel)⟩
theorem cal_21 : mCal 21 2 := ⟨gw_875, gw_2, ⟨by decide +kernel, by decide +kernel⟩, msig (by decide +kernel)⟩
theorem cal_22 : mCal 22 2 := ⟨gw_884, gw_2, ⟨by decide +kernel, by decide +kernel⟩, msig (by decide +kernel)⟩
theorem cal_23 : mCal 23 2 := ⟨gw_1128, gw_2, ⟨by decide +kernel, by decide +kernel⟩, msig (by decide +kernel)⟩
theorem cal_24 : mCal 24 0 := ⟨gw_141, gw_6, ⟨by decide +kernel, by decide +kernel⟩, msig (by decide +kernel)⟩
theorem ini_24 : decide ((mY 24).name = "<init>") = true := by decide +kernel
theorem cal_25 : mCal 25 0 := ⟨gw_695, gw_6, ⟨by decide +kernel, by decide +kernel⟩, msig (by decide +kernel)⟩
theorem cal_26 : mCal 26 1 := ⟨gw_1065, gw_6, ⟨by decide +kernel, by decide +kernel⟩, msig (by decide +kernel)⟩
theorem cal_27 : mCal 27 1 := ⟨gw_716, gw_6, ⟨by decide +kernel, by decide +kernel⟩, msig (by decide +kernel)⟩
theorem cal_28 : mCal 28 1 := ⟨gw_1037, gw_6, ⟨by decide +kernel, by decide +kernel⟩, msig (by decide +kernel)⟩
theorem cal_29 : mCal 29 1 := ⟨gw_1032, gw_6, ⟨by decide +kernel, by decide +kernel⟩, msig (by decide +kernel)⟩
theorem cal_31 : mCal 31 1 := ⟨gw_1041, gw_6, ⟨by decide +kernel, by decide +kernel⟩, msig (by decide +kernel)⟩
theorem cal_32 : mCal 32 2 := ⟨gw_1028, gw_6, ⟨by decide +kernel, by decide +kernel⟩, msig (by decide +kernel)⟩
theorem cal_33 : mCal 33 1 := ⟨gw_1024, gw_6, ⟨by decide +kernel, by decide +kernel⟩, msig (by decide +kernel)⟩
theorem cal_34 : mCal 34 0 := ⟨gw_180, gw_9, ⟨by decide +kernel, by decide +kernel⟩, msig (by decide +kernel)⟩
theorem ini_34 : decide ((mY 34).name = "<init>") = true := by decide +kernel
theorem cal_35 : mCal 35 2 := ⟨gw_510, gw_9, ⟨by decide +kernel, by decide +kernel⟩, msig (by decide +kernel)⟩
theorem cal_36 : mCal 36 1 := ⟨gw_515, gw_9, ⟨by decide +kernel, by decide +kernel⟩, msig (by decide +kernel)⟩
theorem cal_37 : mCal 37 3 := ⟨gw_537, gw_9, ⟨by decide +kernel, by decide +kernel⟩, msig (by decide +kernel)⟩
theorem cal_38 : mCal 38 3 := ⟨gw_529, gw_9, ⟨by decide +kernel, by decide +kernel⟩, msig (by decide +kernel)⟩
theorem cal_39 : mCal 39 2 := ⟨gw_525, gw_9, ⟨by decide +kernel, by decide +kernel⟩, msig (by decide +kernel)⟩
theorem cal_40 : mCal 40 3 := ⟨gw_548, gw_9, ⟨by decide +kernel, by decide +kernel⟩, msig (by decide +kernel)⟩
theorem cal_41 : mCal 41 3 := ⟨gw_562, gw_9, ⟨by decide +kernel, by decide +kernel⟩, msig (by decide +kernel)⟩
theorem cal_42 : mCal 42 4 := ⟨gw_577, gw_9, ⟨by decide +kernel, by decide +kernel⟩, msig (by decide +kernel)⟩
theorem cal_45 : mCal 45 3 := ⟨gw_601, gw_9, ⟨by decide +kernel, by decide +kernel⟩, msig (by decide +kernel)⟩
theorem cal_46 : mCal 46 3 := ⟨gw_609, gw_9, ⟨by decide +kernel, by decide +kernel⟩, msig (by decide +kernel)⟩
theorem cal_47 : mCal 47 2 := ⟨gw_605, gw_9, ⟨by decide +kernel, by decide +kernel⟩, msig (by decide +kernel)⟩
theorem cal_48 : mCal 48 0 := ⟨gw_268, gw_12, ⟨by decide +kernel, by decide +kernel⟩, msig (by decide +kernel)⟩
theorem ini_48 : decide ((mY 48).name = "<init>") = true := by decide +kernel
theorem cal_49 : mCal 49 3 := ⟨gw_958, gw_12, ⟨by decide +kernel, by decide +kernel⟩, msig (by decide +kernel)⟩
theorem cal_50 : mCal 50 0 := ⟨gw_474, gw_12, ⟨by decide +kernel, by decide +kernel⟩, msig (by decide +kernel)⟩
theorem cal_51 : mCal 51 0 := ⟨gw_662, gw_12, ⟨by decide +kernel, by decide +kernel⟩, msig (by decide +kernel)⟩
theorem cal_52 : mCal 52 0 := ⟨gw_637, gw_12, ⟨by decide +kernel, by decide +kernel⟩, msig (by decide +kernel)⟩
theorem cal_53 : mCal 53 0 := ⟨gw_954, gw_12, ⟨by decide +kernel, by decide +kernel⟩, msig (by decide +kernel)⟩
theorem cal_54 : mCal 54 1 := ⟨gw_633, gw_12, ⟨by decide +kernel, by decide +kernel⟩, msig (by decide +kernel)⟩
theorem cal_55 : mCal 55 0 := ⟨gw_975, gw_12, ⟨by decide +kernel, by decide +kernel⟩, msig (by decide +kernel)⟩
theorem cal_56 : mCal 56 0 := ⟨gw_482, gw_12, ⟨by decide +kernel, by decide +kernel⟩, msig (by decide +kernel)⟩
theorem cal_57 : mCal 57 0 := ⟨gw_493, gw_12, ⟨by decide +kernel, by decide +kernel⟩, msig (by decide +kernel)⟩
theorem cal_58 : mCal 58 2 := ⟨gw_979, gw_12, ⟨by decide +kernel, by decide +kernel⟩, msig (by decide +kernel)⟩
theorem cal_59 : mCal 59 0 := ⟨gw_778, gw_12, ⟨by decide +kernel, by decide +kernel⟩, msig (by decide +kernel)⟩
theorem cal_60 : mCal 60 1 := ⟨gw_997, gw_12, ⟨by decide +kernel, by decide +kernel⟩, msig (by decide +kernel)⟩
theorem cal_61 : mCal 61 2 := ⟨gw_994, gw_12, ⟨by decide +kernel, by decide +kernel⟩, msig (by decide +kernel)⟩
theorem cal_62 : mCal 62 1 := ⟨gw_1143, gw_12, ⟨by decide +kernel, by decide +kernel⟩, msig (by decide +kernel)⟩
theorem cal_63 : mCal 63 1 := ⟨gw_1140, gw_12, ⟨by decide +kernel, by decide +kernel⟩, msig (by decide +kernel)⟩
theorem cal_64 : mCal 64 2 := ⟨gw_991, gw_12, ⟨by decide +kernel, by decide +kernel⟩, msig (by decide +kernel)⟩
theorem cal_65 : mCal 65 2 := ⟨gw_1003, gw_12, ⟨by decide +kernel, by decide +kernel⟩, msig (by decide +kernel)⟩
theorem cal_67 : mCal 67 0 := ⟨gw_786, gw_12, ⟨by decide +kernel, by decide +kernel⟩, msig (by decide +kernel)⟩
theorem cal_68 : mCal 68 1 := ⟨gw_798, gw_12, ⟨by decide +kernel, by decide +kernel⟩, msig (by decide +kernel)⟩
theorem cal_69 : mCal 69 0 := ⟨gw_1162, gw_12, ⟨by decide +kernel, by decide +kernel⟩, msig (by decide +kernel)⟩
theorem cal_70 : mCal 70 2 := ⟨gw_1016, gw_12, ⟨by decide +kernel, by decide +kernel⟩, msig (by decide +kernel)⟩
theorem cal_71 : mCal 71 0 := ⟨gw_231, gw_10, ⟨by decide +kernel, by decide +kernel⟩, msig (by decide +kernel)⟩
theorem ini_71 : decide ((mY 71).name = "<init>") = true := by decide +kernel
theorem cal_72 : mCal 72 0 := ⟨gw_1158, gw_10, ⟨by decide +kernel, by decide +kernel⟩, msig (by decide +kernel)⟩
theorem cal_73 : mCal 73 1 := ⟨gw_1244, gw_10, ⟨by decide +kernel, by decide +kernel⟩, msig (by decide +kernel)⟩
theorem cal_74 : mCal 74 1 := ⟨gw_1134, gw_10, ⟨by decide +kernel, by decide +kernel⟩, msig (by decide +kernel)⟩
theorem cal_75 : mCal 75 2 := ⟨gw_1147, gw_10, ⟨by decide +kernel, by decide +kernel⟩, msig (by decide +kernel)⟩
theorem cal_76 : mCal 76 1 := ⟨gw_1153, gw_10, ⟨by decide +kernel, by decide +kernel⟩, msig (by decide +kernel)⟩
theorem cal_77 : mCal 77 0 := ⟨gw_248, gw_11, ⟨by decide +kernel, by decide +kernel⟩, msig (by decide +kernel)⟩
theorem ini_77 : decide ((mY 77).name = "<init>") = true := by decide +kernel
theorem cal_78 : mCal 78 0 := ⟨gw_453, gw_11, ⟨by decide +kernel, by decide +kernel⟩, msig (by decide +kernel)⟩
theorem cal_79 : mCal 79 0 := ⟨gw_457, gw_11, ⟨by decide +kernel, by decide +kernel⟩, msig (by decide +kernel)⟩
theorem cal_80 : mCal 80 0 := ⟨gw_461, gw_11, ⟨by decide +kernel, by decide +kernel⟩, msig (by decide +kernel)⟩
theorem cal_81 : mCal 81 1 := ⟨gw_628, gw_11, ⟨by decide +kernel, by decide +kernel⟩, msig (by decide +kernel)⟩
theorem cal_82 : mCal 82 1 := ⟨gw_1106, gw_11, ⟨by decide +kernel, by decide +kernel⟩, msig (by decide +kernel)⟩
theorem cal_83 : mCal 83 0 := ⟨gw_966, gw_11, ⟨by decide +kernel, by decide +kernel⟩, msig (by decide +kernel)⟩
theorem cal_84 : mCal 84 0 := ⟨gw_807, gw_11, ⟨by decide +kernel, by decide +kernel⟩, msig (by decide +kernel)⟩
theorem cal_85 : mCal 85 1 := ⟨gw_666, gw_11, ⟨by decide +kernel, by decide +kernel⟩, msig (by decide +kernel)⟩
theorem cal_86 : mCal 86 0 := ⟨gw_159, gw_7, ⟨by decide +kernel, by decide +kernel⟩, msig (by decide +kernel)⟩
theorem ini_86 : decide ((mY 86).name = "<init>") = true := by decide +kernel
theorem cal_92 : mCal 92 1 := ⟨gw_49, gw_3, ⟨by decide +kernel, by decide +kernel⟩, msig (by decide +kernel)⟩
theorem ini_92 : decide ((mY 92).name = "<init>") = true := by decide +kernel
theorem cal_93 : mCal 93 0 := ⟨gw_93, gw_3, ⟨by decide +kernel, by decide +kernel⟩, msig (by decide +kernel)⟩
theorem cal_94 : mCal 94 0 := ⟨gw_782, gw_3, ⟨by decide +kernel, by decide +kernel⟩, msig (by decide +kernel)⟩
theorem cal_95 : mCal 95 1 := ⟨gw_97, gw_3, ⟨by decide +kernel, by decide +kernel⟩, msig (by decide +kernel)⟩
theorem cal_96 : mCal 96 2 := ⟨gw_533, gw_3, ⟨by decide +kernel, by decide +kernel⟩, msig (by decide +kernel)⟩
theorem cal_97 : mCal 97 1 := ⟨gw_81, gw_3, ⟨by decide +kernel, by decide +kernel⟩, msig (by decide +kernel)⟩
theorem cal_98 : mCal 98 2 := ⟨gw_654, gw_3, ⟨by decide +kernel, by decide +kernel⟩, msig (by decide +kernel)⟩
theorem cal_99 : mCal 99 1 := ⟨gw_930, gw_3, ⟨by decide +kernel, by decide +kernel⟩, msig (by decide +kernel)⟩
theorem cal_100 : mCal 100 0 := ⟨gw_89, gw_3, ⟨by decide +kernel, by decide +kernel⟩, msig (by decide +kernel)⟩
theorem cal_101 : mCal 101 3 := ⟨gw_486, gw_3, ⟨by decide +kernel, by decide +kernel⟩, msig (by decide +kernel)⟩
theorem cal_102 : mCal 102 1 := ⟨gw_670, gw_3, ⟨by decide +kernel, by decide +kernel⟩, msig (by decide +kernel)⟩
theorem cal_103 : mCal 103 1 := ⟨gw_557, gw_3, ⟨by decide +kernel, by decide +kernel⟩, msig (by decide +kernel)⟩
theorem cal_104 : mCal 104 1 := ⟨gw_910, gw_3, ⟨by decide +kernel, by decide +kernel⟩, msig (by decide +kernel)⟩
theorem cal_105 : mCal 105 0 := ⟨gw_67, gw_5, ⟨by decide +kernel, by decide +kernel⟩, msig (by decide +kernel)⟩
theorem ini_105 : decide ((mY 105).name = "<init>") = true := by decide +kernel
theorem cal_106 : mCal 106 2 := ⟨gw_74, gw_5, ⟨by decide +kernel, by decide +kernel⟩, msig (by decide +kernel)⟩
theorem cal_107 : mCal 107 0 := ⟨gw_85, gw_5, ⟨by decide +kernel, by decide +kernel⟩, msig (by decide +kernel)⟩
theorem cal_108 : mCal 108 1 := ⟨gw_544, gw_5, ⟨by decide +kernel, by decide +kernel⟩, msig (by decide +kernel)⟩
theorem cal_109 : mCal 109 2 := ⟨gw_677, gw_5, ⟨by decide +kernel, by decide +kernel⟩, msig (by decide +kernel)⟩
theorem cal_110 : mCal 110 0 := ⟨gw_1079, gw_5, ⟨by decide +kernel, by decide +kernel⟩, msig (by decide +kernel)⟩
theorem cal_111 : mCal 111 0 := ⟨gw_753, gw_5, ⟨by decide +kernel, by decide +kernel⟩, msig (by decide +kernel)⟩
theorem cal_112 : mCal 112 1 := ⟨gw_1084, gw_5, ⟨by decide +kernel, by decide +kernel⟩, msig (by decide +kernel)⟩
theorem cal_113 : mCal 113 1 := ⟨gw_573, gw_5, ⟨by decide +kernel, by decide +kernel⟩, msig (by decide +kernel)⟩
theorem cal_114 : mCal 114 1 := ⟨gw_553, gw_5, ⟨by decide +kernel, by decide +kernel⟩, msig (by decide +kernel)⟩
theorem cal_115 : mCal 115 2 := ⟨gw_588, gw_5, ⟨by decide +kernel, by decide +kernel⟩, msig (by decide +kernel)⟩
theorem cal_116 : mCal 116 3 := ⟨gw_897, gw_5, ⟨by decide +kernel, by decide +kernel⟩, msig (by decide +kernel)⟩
theorem cal_117 : mCal 117 1 := ⟨gw_900, gw_5, ⟨by decide +kernel, by decide +kernel⟩, msig (by decide +kernel)⟩
theorem cal_118 : mCal 118 2 := ⟨gw_906, gw_5, ⟨by decide +kernel, by decide +kernel⟩, msig (by decide +kernel)⟩
theorem cal_119 : mCal 119 1 := ⟨gw_915, gw_5, ⟨by decide +kernel, by decide +kernel⟩, msig (by decide +kernel)⟩
theorem cal_120 : mCal 120 3 := ⟨gw_920, gw_5, ⟨by decide +kernel, by decide +kernel⟩, msig (by decide +kernel)⟩
theorem cal_121 : mCal 121 1 := ⟨gw_924, gw_5, ⟨by decide +kernel, by decide +kernel⟩, msig (by decide +kernel)⟩
theorem cal_122 : mCal 122 1 := ⟨gw_934, gw_5, ⟨by decide +kernel, by decide +kernel⟩, msig (by decide +kernel)⟩
theorem cal_123 : mCal 123 3 := ⟨gw_943, gw_5, ⟨by decide +kernel, by decide +kernel⟩, msig (by decide +kernel)⟩
theorem cal_124 : mCal 124 3 := ⟨gw_938, gw_5, ⟨by decide +kernel, by decide +kernel⟩, msig (by decide +kernel)⟩
theorem cal_127 : mCal 127 0 := ⟨gw_24, gw_1, ⟨by decide +kernel, by decide +kernel⟩, msig (by decide +kernel)⟩
theorem ini_127 : decide ((mY 127).name = "<init>") = true := by decide +kernel
theorem cal_128 : mCal 128 1 := ⟨gw_820, gw_1, ⟨by decide +kernel, by decide +kernel⟩, msig (by decide +kernel)⟩
theorem cal_129 : mCal 129 3 := ⟨gw_838, gw_1, ⟨by decide +kernel, by decide +kernel⟩, msig (by decide +kernel)⟩
theorem cal_130 : mCal 130 0 := ⟨gw_1177, gw_1, ⟨by decide +kernel, by decide +kernel⟩, msig (by decide +kernel)⟩
theorem cal_131 : mCal 131 0 := ⟨gw_364, gw_1, ⟨by decide +kernel, by decide +kernel⟩, msig (by decide +kernel)⟩
theorem cal_132 : mCal 132 0 := ⟨gw_863, gw_1, ⟨by decide +kernel, by decide +kernel⟩, msig (by decide +kernel)⟩
theorem cal_133 : mCal 133 2 := ⟨gw_891, gw_1, ⟨by decide +kernel, by decide +kernel⟩, msig (by decide +kernel)⟩
theorem cal_135 : mCal 135 3 := ⟨gw_370, gw_1, ⟨by decide +kernel, by decide +kernel⟩, msig (by decide +kernel)⟩
theorem cal_136 : mCal 136 2 := ⟨gw_681, gw_1, ⟨by decide +kernel, by decide +kernel⟩, msig (by decide +kernel)⟩
theorem cal_137 : mCal 137 3 := ⟨gw_947, gw_1, ⟨by decide +kernel, by decide +kernel⟩, msig (by decide +kernel)⟩
theorem cal_138 : mCal 138 3 := ⟨gw_970, gw_1, ⟨by decide +kernel, by decide +kernel⟩, msig (by decide +kernel)⟩
theorem cal_139 : mCal 139 3 := ⟨gw_983, gw_1, ⟨by decide +kernel, by decide +kernel⟩, msig (by decide +kernel)⟩
theorem cal_140 : mCal 140 3 := ⟨gw_1010, gw_1, ⟨by decide +kernel, by decide +kernel⟩, msig (by decide +kernel)⟩
theorem cal_141 : mCal 141 1 := ⟨gw_686, gw_1, ⟨by decide +kernel, by decide +kernel⟩, msig (by decide +kernel)⟩
theorem cal_146 : mCal 146 2 := ⟨gw_721, gw_1, ⟨by decide +kernel, by decide +kernel⟩, msig (by decide +kernel)⟩
theorem cal_147 : mCal 147 0 := ⟨gw_744, gw_1, ⟨by decide +kernel, by decide +kernel⟩, msig (by decide +kernel)⟩
theorem cal_148 : mCal 148 3 := ⟨gw_1185, gw_1, ⟨by decide +kernel, by decide +kernel⟩, msig (by decide +kernel)⟩
theorem cal_149 : mCal 149 1 := ⟨gw_748, gw_1, ⟨by decide +kernel, by decide +kernel⟩, msig (by decide +kernel)⟩
theorem cal_150 : mCal 150 2 := ⟨gw_1075, gw_1, ⟨by decide +kernel, by decide +kernel⟩, msig (by decide +kernel)⟩
theorem cal_152 : mCal 152 4 := ⟨gw_1216, gw_1, ⟨by decide +kernel, by decide +kernel⟩, msig (by decide +kernel)⟩
theorem cal_153 : mCal 153 4 := ⟨gw_1193, gw_1, ⟨by decide +kernel, by decide +kernel⟩, msig (by decide +kernel)⟩
theorem cal_154 : mCal 154 4 := ⟨gw_1208, gw_1, ⟨by decide +kernel, by decide +kernel⟩, msig (by decide +kernel)⟩
theorem cal_156 : mCal 156 0 := ⟨gw_757, gw_1, ⟨by decide +kernel, by decide +kernel⟩, msig (by decide +kernel)⟩
theorem cal_157 : mCal 157 2 := ⟨gw_1070, gw_1, ⟨by decide +kernel, by decide +kernel⟩, msig (by decide +kernel)⟩
theorem cal_158 : mCal 158 2 := ⟨gw_1232, gw_1, ⟨by decide +kernel, by decide +kernel⟩, msig (by decide +kernel)⟩
theorem cal_159 : mCal 159 2 := ⟨gw_1239, gw_1, ⟨by decide +kernel, by decide +kernel⟩, msig (by decide +kernel)⟩
theorem cal_160 : mCal 160 1 := ⟨gw_761, gw_1, ⟨by decide +kernel, by decide +kernel⟩, msig (by decide +kernel)⟩
theorem cal_161 : mCal 161 0 := ⟨gw_790, gw_1, ⟨by decide +kernel, by decide +kernel⟩, msig (by decide +kernel)⟩
theorem cal_162 : mCal 162 1 := ⟨gw_802, gw_1, ⟨by decide +kernel, by decide +kernel⟩, msig (by decide +kernel)⟩
theorem cal_163 : mCal 163 2 := ⟨gw_1089, gw_1, ⟨by decide +kernel, by decide +kernel⟩, msig (by decide +kernel)⟩
theorem cal_164 : mCal 164 3 := ⟨gw_1020, gw_1, ⟨by decide +kernel, by decide +kernel⟩, msig (by decide +kernel)⟩
theorem cal_165 : mCal 165 1 := ⟨gw_824, gw_1, ⟨by decide +kernel, by decide +kernel⟩, msig (by decide +kernel)⟩
theorem cal_166 : mCal 166 1 := ⟨gw_690, gw_1, ⟨by decide +kernel, by decide +kernel⟩, msig (by decide +kernel)⟩
theorem cal_167 : mCal 167 1 := ⟨gw_765, gw_1, ⟨by decide +kernel, by decide +kernel⟩, msig (by decide +kernel)⟩
theorem cal_168 : mCal 168 2 := ⟨gw_1093, gw_1, ⟨by decide +kernel, by decide +kernel⟩, msig (by decide +kernel)⟩
theorem cal_169 : mCal 169 1 := ⟨gw_478, gw_1, ⟨by decide +kernel, by decide +kernel⟩, msig (by decide +kernel)⟩
theorem cal_170 : mCal 170 1 := ⟨gw_502, gw_1, ⟨by decide +kernel, by decide +kernel⟩, msig (by decide +kernel)⟩
theorem cal_171 : mCal 171 1 := ⟨gw_466, gw_1, ⟨by decide +kernel, by decide +kernel⟩, msig (by decide +kernel)⟩
theorem cal_172 : mCal 172 1 := ⟨gw_498, gw_1, ⟨by decide +kernel, by decide +kernel⟩, msig (by decide +kernel)⟩
theorem cal_173 : mCal 173 1 := ⟨gw_449, gw_1, ⟨by decide +kernel, by decide +kernel⟩, msig (by decide +kernel)⟩
theorem cal_174 : mCal 174 1 := ⟨gw_373, gw_1, ⟨by decide +kernel, by decide +kernel⟩, msig (by decide +kernel)⟩
theorem cal_175 : mCal 175 1 := ⟨gw_1197, gw_1, ⟨by decide +kernel, by decide +kernel⟩, msig (by decide +kernel)⟩
theorem cal_176 : mCal 176 1 := ⟨gw_986, gw_1, ⟨by decide +kernel, by decide +kernel⟩, msig (by decide +kernel)⟩
theorem cal_177 : mCal 177 1 := ⟨gw_724, gw_1, ⟨by decide +kernel, by decide +kernel⟩, msig (by decide +kernel)⟩
theorem cal_178 : mCal 178 1 := ⟨gw_845, gw_1, ⟨by decide +kernel, by decide +kernel⟩, msig (by decide +kernel)⟩
theorem cal_179 : mCal 179 1 := ⟨gw_521, gw_1, ⟨by decide +kernel, by decide +kernel⟩, msig (by decide +kernel)⟩
theorem cal_180 : mCal 180 1 := ⟨gw_565, gw_1, ⟨by decide +kernel, by decide +kernel⟩, msig (by decide +kernel)⟩
theorem cal_181 : mCal 181 1 := ⟨gw_540, gw_1, ⟨by decide +kernel, by decide +kernel⟩, msig (by decide +kernel)⟩
theorem cal_182 : mCal 182 1 := ⟨gw_580, gw_1, ⟨by decide +kernel, by decide +kernel⟩, msig (by decide +kernel)⟩
theorem cal_183 : mCal 183 1 := ⟨gw_1120, gw_1, ⟨by decide +kernel, by decide +kernel⟩, msig (by decide +kernel)⟩
theorem cal_184 : mCal 184 3 := ⟨gw_568, gw_1, ⟨by decide +kernel, by decide +kernel⟩, msig (by decide +kernel)⟩
theorem cal_185 : mCal 185 1 := ⟨gw_77, gw_1, ⟨by decide +kernel, by decide +kernel⟩, msig (by decide +kernel)⟩
theorem cal_186 : mCal 186 1 := ⟨gw_591, gw_1, ⟨by decide +kernel, by decide +kernel⟩, msig (by decide +kernel)⟩
theorem cal_187 : mCal 187 2 := ⟨gw_594, gw_1, ⟨by decide +kernel, by decide +kernel⟩, msig (by decide +kernel)⟩
theorem cal_188 : mCal 188 1 := ⟨gw_445, gw_1, ⟨by decide +kernel, by decide +kernel⟩, msig (by decide +kernel)⟩
theorem cal_189 : mCal 189 0 := ⟨gw_962, gw_1, ⟨by decide +kernel, by decide +kernel⟩, msig (by decide +kernel)⟩
theorem cal_190 : mCal 190 2 := ⟨gw_658, gw_1, ⟨by decide +kernel, by decide +kernel⟩, msig (by decide +kernel)⟩
theorem cal_191 : mCal 191 3 := ⟨gw_641, gw_1, ⟨by decide +kernel, by decide +kernel⟩, msig (by decide +kernel)⟩
theorem cal_192 : mCal 192 2 := ⟨gw_644, gw_1, ⟨by decide +kernel, by decide +kernel⟩, msig (by decide +kernel)⟩
theorem cal_193 : mCal 193 2 := ⟨gw_470, gw_1, ⟨by decide +kernel, by decide +kernel⟩, msig (by decide +kernel)⟩
theorem cal_194 : mCal 194 2 := ⟨gw_1102, gw_1, ⟨by decide +kernel, by decide +kernel⟩, msig (by decide +kernel)⟩
theorem cal_195 : mCal 195 2 := ⟨gw_1111, gw_1, ⟨by decide +kernel, by decide +kernel⟩, msig (by decide +kernel)⟩
theorem cal_196 : mCal 196 1 := ⟨gw_1116, gw_1, ⟨by decide +kernel, by decide +kernel⟩, msig (by decide +kernel)⟩
theorem cal_197 : mCal 197 1 := ⟨gw_770, gw_1, ⟨by decide +kernel, by decide +kernel⟩, msig (by decide +kernel)⟩
theorem cal_198 : mCal 198 1 := ⟨gw_774, gw_1, ⟨by decide +kernel, by decide +kernel⟩, msig (by decide +kernel)⟩
theorem cal_199 : mCal 199 1 := ⟨gw_794, gw_1, ⟨by decide +kernel, by decide +kernel⟩, msig (by decide +kernel)⟩
theorem cal_200 : mCal 200 3 := ⟨gw_1098, gw_1, ⟨by decide +kernel, by decide +kernel⟩, msig (by decide +kernel)⟩
theorem cal_201 : mCal 201 4 := ⟨gw_1173, gw_1, ⟨by decide +kernel, by decide +kernel⟩, msig (by decide +kernel)⟩
theorem cal_202 : mCal 202 1 := ⟨gw_1124, gw_1, ⟨by decide +kernel, by decide +kernel⟩, msig (by decide +kernel)⟩
theorem cal_203 : mCal 203 2 := ⟨gw_1048, gw_1, ⟨by decide +kernel, by decide +kernel⟩, msig (by decide +kernel)⟩
theorem cal_204 : mCal 204 2 := ⟨gw_1053, gw_1, ⟨by decide +kernel, by decide +kernel⟩, msig (by decide +kernel)⟩
theorem cal_205 : mCal 205 3 := ⟨gw_1057, gw_1, ⟨by decide +kernel, by decide +kernel⟩, msig (by decide +kernel)⟩
theorem cal_206 : mCal 206 2 := ⟨gw_1061, gw_1, ⟨by decide +kernel, by decide +kernel⟩, msig (by decide +kernel)⟩
theorem cal_327 : mCal 327 2 := ⟨gw_650, gw_19, ⟨by decide +kernel, by decide +kernel⟩, msig (by decide +kernel)⟩
theorem cal_328 : mCal 328 1 := ⟨gw_1165, gw_19, ⟨by decide +kernel, by decide +kernel⟩, msig (by decide +kernel)⟩
theorem cal_329 : mCal 329 2 := ⟨gw_53, gw_4, ⟨by decide +kernel, by decide +kernel⟩, msig (by decide +kernel)⟩
theorem cal_330 : mCal 330 2 := ⟨gw_647, gw_4, ⟨by decide +kernel, by decide +kernel⟩, msig (by decide +kernel)⟩
theorem cal_331 : mCal 331 5 := ⟨gw_816, gw_0, ⟨by decide +kernel, by decide +kernel⟩, msig (by decide +kernel)⟩
theorem cal_332 : mCal 332 5 := ⟨gw_810, gw_0, ⟨by decide +kernel, by decide +kernel⟩, msig (by decide +kernel)⟩
theorem cal_333 : mCal 333 2 := ⟨gw_1181, gw_0, ⟨by decide +kernel, by decide +kernel⟩, msig (by decide +kernel)⟩
theorem cal_334 : mCal 334 4 := ⟨gw_1189, gw_0, ⟨by decide +kernel, by decide +kernel⟩, msig (by decide +kernel)⟩
theorem cal_335 : mCal 335 2 := ⟨gw_1224, gw_0, ⟨by decide +kernel, by decide +kernel⟩, msig (by decide +kernel)⟩
theorem cal_336 : mCal 336 5 := ⟨gw_1228, gw_0, ⟨by decide +kernel, by decide +kernel⟩, msig (by decide +kernel)⟩
theorem cal_337 : mCal 337 3 := ⟨gw_1235, gw_0, ⟨by decide +kernel, by decide +kernel⟩, msig (by decide +kernel)⟩
theorem at_0 : ∀ w ∈ vx_atS "Collationer" 113 (pE 0) mThr, w ∈ mGd ∨ w = .castable (pE 0) (pE 0) ∨ w ∈ mnw := by decide +kernel
theorem at_1 : ∀ w ∈ vx_atS "Collationer" 124 (pE 2) mThr, w ∈ mGd ∨ w = .castable (pE 2) (pE 2) ∨ w ∈ mnw := by decide +kernel
theorem at_2 : ∀ w ∈ vx_atS "Collationer" 183 (pE 1) mThr, w ∈ mGd ∨ w = .castable (pE 1) (pE 1) ∨ w ∈ mnw := by decide +kernel