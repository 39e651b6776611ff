/-! Every entry of the program is what the machine decodes there. -/

def mBk (cc : ByteArray) (q : Nat × mE) : Bool := decide (decode cc q.1 = .ok (q.2.1, q.2.2.1)) && mlen q.2.1 q.2.2.1
theorem mBk_ok {cc : ByteArray} {l : List (Nat × mE)} (h : l.all (mBk cc) = true) : ∀ q ∈ l, decode cc q.1 = .ok (q.2.1, q.2.2.1) ∧ mlen q.2.1 q.2.2.1 = true := by
  intro q hq
  have h1 := List.all_eq_true.mp h q hq
  simp only [mBk, Bool.and_eq_true, decide_eq_true_eq] at h1
  exact h1
theorem mAllApp {g : Nat × mE → Prop} {a b : List (Nat × mE)} (ha : ∀ q ∈ a, g q) (hb : ∀ q ∈ b, g q) : ∀ q ∈ a ++ b, g q := fun q hq => (List.mem_append.mp hq).elim (ha q) (hb q)

theorem mJoin {g : Nat × mE → Prop} {l : List (Nat × mE)} (c n : Nat) (hl : l.length ≤ c * n) (h : ∀ j, j < n → ∀ q ∈ (l.drop (c * j)).take c, g q) : ∀ q ∈ l, g q := by
  intro q hq
  obtain ⟨i, hi, rfl⟩ := List.getElem_of_mem hq
  by_cases hc : c = 0
  · subst hc
    omega
  have h1 : i / c < n := by
    rw [Nat.div_lt_iff_lt_mul (by omega), Nat.mul_comm]
    omega
  refine h (i / c) h1 _ (List.mem_iff_getElem?.mpr ⟨i % c, ?_⟩)
  have h2 := Nat.div_add_mod i c
  have h3 := Nat.mod_lt i (show 0 < c by omega)
  rw [List.getElem?_take_of_lt h3, List.getElem?_drop, h2]
  exact List.getElem?_eq_getElem hi

theorem mb_0 : ∀ q ∈ mt_0, decode cX0_init q.1 = .ok (q.2.1, q.2.2.1) ∧ mlen q.2.1 q.2.2.1 = true := mBk_ok (by decide +kernel)

theorem mb_1 : ∀ q ∈ mt_1, decode cX8_size q.1 = .ok (q.2.1, q.2.2.1) ∧ mlen q.2.1 q.2.2.1 = true := mBk_ok (by decide +kernel)

theorem mb_2 : ∀ q ∈ mt_2, decode cX0_putKey q.1 = .ok (q.2.1, q.2.2.1) ∧ mlen q.2.1 q.2.2.1 = true := mBk_ok (by decide +kernel)

theorem mb_3 : ∀ q ∈ mt_3, decode cX0_firstWeightIn q.1 = .ok (q.2.1, q.2.2.1) ∧ mlen q.2.1 q.2.2.1 = true := mBk_ok (by decide +kernel)

theorem mb_4 : ∀ q ∈ mt_4, decode cX0_putRaised q.1 = .ok (q.2.1, q.2.2.1) ∧ mlen q.2.1 q.2.2.1 = true := mBk_ok (by decide +kernel)

theorem mb_5 : ∀ q ∈ mt_5, decode cX0_putRuns q.1 = .ok (q.2.1, q.2.2.1) ∧ mlen q.2.1 q.2.2.1 = true := mBk_ok (by decide +kernel)

theorem mb_6 : ∀ q ∈ mt_6, decode cX0_putRun q.1 = .ok (q.2.1, q.2.2.1) ∧ mlen q.2.1 q.2.2.1 = true := mBk_ok (by decide +kernel)

theorem mb_7 : ∀ q ∈ mt_7, decode cX0_byteAt q.1 = .ok (q.2.1, q.2.2.1) ∧ mlen q.2.1 q.2.2.1 = true := mBk_ok (by decide +kernel)

theorem mb_8 : ∀ q ∈ mt_8, decode cX0_compareByKeys q.1 = .ok (q.2.1, q.2.2.1) ∧ mlen q.2.1 q.2.2.1 = true := mBk_ok (by decide +kernel)

theorem mb_9 : ∀ q ∈ mt_9, decode cX0_compareByRows q.1 = .ok (q.2.1, q.2.2.1) ∧ mlen q.2.1 q.2.2.1 = true := mBk_ok (by decide +kernel)

theorem mb_10 : ∀ q ∈ mt_10, decode cX8_size q.1 = .ok (q.2.1, q.2.2.1) ∧ mlen q.2.1 q.2.2.1 = true := mBk_ok (by decide +kernel)

theorem mb_11 : ∀ q ∈ mt_11, decode cX8_size q.1 = .ok (q.2.1, q.2.2.1) ∧ mlen q.2.1 q.2.2.1 = true := mBk_ok (by decide +kernel)

theorem mb_12 : ∀ q ∈ mt_12, decode cX1_init q.1 = .ok (q.2.1, q.2.2.1) ∧ mlen q.2.1 q.2.2.1 = true := mBk_ok (by decide +kernel)

theorem mb_13 : ∀ q ∈ mt_13, decode cX1_count q.1 = .ok (q.2.1, q.2.2.1) ∧ mlen q.2.1 q.2.2.1 = true := mBk_ok (by decide +kernel)

theorem mb_14 : ∀ q ∈ mt_14, decode cX1_has q.1 = .ok (q.2.1, q.2.2.1) ∧ mlen q.2.1 q.2.2.1 = true := mBk_ok (by decide +kernel)

theorem mb_15 : ∀ q ∈ mt_15, decode cX1_baseOf q.1 = .ok (q.2.1, q.2.2.1) ∧ mlen q.2.1 q.2.2.1 = true := mBk_ok (by decide +kernel)

theorem mb_16 : ∀ q ∈ mt_16, decode cX1_markOf q.1 = .ok (q.2.1, q.2.2.1) ∧ mlen q.2.1 q.2.2.1 = true := mBk_ok (by decide +kernel)

theorem mb_17 : ∀ q ∈ mt_17, decode cX1_canBeBase q.1 = .ok (q.2.1, q.2.2.1) ∧ mlen q.2.1 q.2.2.1 = true := mBk_ok (by decide +kernel)

theorem mb_18 : ∀ q ∈ mt_18, decode cX1_tell q.1 = .ok (q.2.1, q.2.2.1) ∧ mlen q.2.1 q.2.2.1 = true := mBk_ok (by decide +kernel)

theorem mb_19 : ∀ q ∈ mt_19, decode cX1_composedOf q.1 = .ok (q.2.1, q.2.2.1) ∧ mlen q.2.1 q.2.2.1 = true := mBk_ok (by decide +kernel)

theorem mb_20 : ∀ q ∈ mt_20, decode cX1_takeApart q.1 = .ok (q.2.1, q.2.2.1) ∧ mlen q.2.1 q.2.2.1 = true := mBk_ok (by decide +kernel)

theorem mb_21 : ∀ q ∈ mt_21, decode cX1_putApart q.1 = .ok (q.2.1, q.2.2.1) ∧ mlen q.2.1 q.2.2.1 = true := mBk_ok (by decide +kernel)

theorem mb_22 : ∀ q ∈ mt_22, decode cX1_sinkMark q.1 = .ok (q.2.1, q.2.2.1) ∧ mlen q.2.1 q.2.2.1 = true := mBk_ok (by decide +kernel)

theorem mb_23 : ∀ q ∈ mt_23, decode cX1_putTogether q.1 = .ok (q.2.1, q.2.2.1) ∧ mlen q.2.1 q.2.2.1 = true := mBk_ok (by decide +kernel)

theorem mb_24 : ∀ q ∈ mt_24, decode cX2_init q.1 = .ok (q.2.1, q.2.2.1) ∧ mlen q.2.1 q.2.2.1 = true := mBk_ok (by decide +kernel)

theorem mb_25 : ∀ q ∈ mt_25, decode cX2_wordCount q.1 = .ok (q.2.1, q.2.2.1) ∧ mlen q.2.1 q.2.2.1 = true := mBk_ok (by decide +kernel)

theorem mb_26 : ∀ q ∈ mt_26, decode cX2_hasWord q.1 = .ok (q.2.1, q.2.2.1) ∧ mlen q.2.1 q.2.2.1 = true := mBk_ok (by decide +kernel)

theorem mb_27 : ∀ q ∈ mt_27, decode cX2_addWord q.1 = .ok (q.2.1, q.2.2.1) ∧ mlen q.2.1 q.2.2.1 = true := mBk_ok (by decide +kernel)

theorem mb_28 : ∀ q ∈ mt_28, decode cX2_textOf q.1 = .ok (q.2.1, q.2.2.1) ∧ mlen q.2.1 q.2.2.1 = true := mBk_ok (by decide +kernel)

theorem mb_29 : ∀ q ∈ mt_29, decode cX2_readAs q.1 = .ok (q.2.1, q.2.2.1) ∧ mlen q.2.1 q.2.2.1 = true := mBk_ok (by decide +kernel)

theorem mb_30 : ∀ q ∈ mt_30, decode cX8_size q.1 = .ok (q.2.1, q.2.2.1) ∧ mlen q.2.1 q.2.2.1 = true := mBk_ok (by decide +kernel)

theorem mb_31 : ∀ q ∈ mt_31, decode cX2_readingsOf q.1 = .ok (q.2.1, q.2.2.1) ∧ mlen q.2.1 q.2.2.1 = true := mBk_ok (by decide +kernel)

theorem mb_32 : ∀ q ∈ mt_32, decode cX2_isOf q.1 = .ok (q.2.1, q.2.2.1) ∧ mlen q.2.1 q.2.2.1 = true := mBk_ok (by decide +kernel)

theorem mb_33 : ∀ q ∈ mt_33, decode cX2_countOf q.1 = .ok (q.2.1, q.2.2.1) ∧ mlen q.2.1 q.2.2.1 = true := mBk_ok (by decide +kernel)

theorem mb_34 : ∀ q ∈ mt_34, decode cX3_init q.1 = .ok (q.2.1, q.2.2.1) ∧ mlen q.2.1 q.2.2.1 = true := mBk_ok (by decide +kernel)

theorem mb_35 : ∀ q ∈ mt_35, decode cX3_gather q.1 = .ok (q.2.1, q.2.2.1) ∧ mlen q.2.1 q.2.2.1 = true := mBk_ok (by decide +kernel)

theorem mb_36 : ∀ q ∈ mt_36, decode cX3_begin q.1 = .ok (q.2.1, q.2.2.1) ∧ mlen q.2.1 q.2.2.1 = true := mBk_ok (by decide +kernel)

theorem mb_37 : ∀ q ∈ mt_37, decode cX3_put q.1 = .ok (q.2.1, q.2.2.1) ∧ mlen q.2.1 q.2.2.1 = true := mBk_ok (by decide +kernel)

theorem mb_38 : ∀ q ∈ mt_38, decode cX3_take q.1 = .ok (q.2.1, q.2.2.1) ∧ mlen q.2.1 q.2.2.1 = true := mBk_ok (by decide +kernel)

theorem mb_39 : ∀ q ∈ mt_39, decode cX3_putMark q.1 = .ok (q.2.1, q.2.2.1) ∧ mlen q.2.1 q.2.2.1 = true := mBk_ok (by decide +kernel)

theorem mb_40 : ∀ q ∈ mt_40, decode cX3_putNumber q.1 = .ok (q.2.1, q.2.2.1) ∧ mlen q.2.1 q.2.2.1 = true := mBk_ok (by decide +kernel)

theorem mb_41 : ∀ q ∈ mt_41, decode cX3_putItem q.1 = .ok (q.2.1, q.2.2.1) ∧ mlen q.2.1 q.2.2.1 = true := mBk_ok (by decide +kernel)

theorem mb_42 : ∀ q ∈ mt_42, decode cX3_takeMarks q.1 = .ok (q.2.1, q.2.2.1) ∧ mlen q.2.1 q.2.2.1 = true := mBk_ok (by decide +kernel)

theorem mb_43 : ∀ q ∈ mt_43, decode cX8_size q.1 = .ok (q.2.1, q.2.2.1) ∧ mlen q.2.1 q.2.2.1 = true := mBk_ok (by decide +kernel)

theorem mb_44 : ∀ q ∈ mt_44, decode cX8_size q.1 = .ok (q.2.1, q.2.2.1) ∧ mlen q.2.1 q.2.2.1 = true := mBk_ok (by decide +kernel)

theorem mb_45 : ∀ q ∈ mt_45, decode cX3_putLevel q.1 = .ok (q.2.1, q.2.2.1) ∧ mlen q.2.1 q.2.2.1 = true := mBk_ok (by decide +kernel)

theorem mb_46 : ∀ q ∈ mt_46, decode cX3_weightOn q.1 = .ok (q.2.1, q.2.2.1) ∧ mlen q.2.1 q.2.2.1 = true := mBk_ok (by decide +kernel)

theorem mb_47 : ∀ q ∈ mt_47, decode cX3_lastWeight q.1 = .ok (q.2.1, q.2.2.1) ∧ mlen q.2.1 q.2.2.1 = true := mBk_ok (by decide +kernel)

theorem mb_48 : ∀ q ∈ mt_48, decode cX4_init q.1 = .ok (q.2.1, q.2.2.1) ∧ mlen q.2.1 q.2.2.1 = true := mBk_ok (by decide +kernel)

theorem mb_49 : ∀ q ∈ mt_49, decode cX4_begin q.1 = .ok (q.2.1, q.2.2.1) ∧ mlen q.2.1 q.2.2.1 = true := mBk_ok (by decide +kernel)

theorem mb_50 : ∀ q ∈ mt_50, decode cX4_textNumber q.1 = .ok (q.2.1, q.2.2.1) ∧ mlen q.2.1 q.2.2.1 = true := mBk_ok (by decide +kernel)

theorem mb_51 : ∀ q ∈ mt_51, decode cX4_parent q.1 = .ok (q.2.1, q.2.2.1) ∧ mlen q.2.1 q.2.2.1 = true := mBk_ok (by decide +kernel)

theorem mb_52 : ∀ q ∈ mt_52, decode cX4_hasParent q.1 = .ok (q.2.1, q.2.2.1) ∧ mlen q.2.1 q.2.2.1 = true := mBk_ok (by decide +kernel)

theorem mb_53 : ∀ q ∈ mt_53, decode cX4_indexSet q.1 = .ok (q.2.1, q.2.2.1) ∧ mlen q.2.1 q.2.2.1 = true := mBk_ok (by decide +kernel)

theorem mb_54 : ∀ q ∈ mt_54, decode cX4_isIn q.1 = .ok (q.2.1, q.2.2.1) ∧ mlen q.2.1 q.2.2.1 = true := mBk_ok (by decide +kernel)

theorem mb_55 : ∀ q ∈ mt_55, decode cX4_formKind q.1 = .ok (q.2.1, q.2.2.1) ∧ mlen q.2.1 q.2.2.1 = true := mBk_ok (by decide +kernel)

theorem mb_56 : ∀ q ∈ mt_56, decode cX4_formSigns q.1 = .ok (q.2.1, q.2.2.1) ∧ mlen q.2.1 q.2.2.1 = true := mBk_ok (by decide +kernel)

theorem mb_57 : ∀ q ∈ mt_57, decode cX4_isTurned q.1 = .ok (q.2.1, q.2.2.1) ∧ mlen q.2.1 q.2.2.1 = true := mBk_ok (by decide +kernel)

theorem mb_58 : ∀ q ∈ mt_58, decode cX4_setForm q.1 = .ok (q.2.1, q.2.2.1) ∧ mlen q.2.1 q.2.2.1 = true := mBk_ok (by decide +kernel)

theorem mb_59 : ∀ q ∈ mt_59, decode cX4_locators q.1 = .ok (q.2.1, q.2.2.1) ∧ mlen q.2.1 q.2.2.1 = true := mBk_ok (by decide +kernel)

theorem mb_60 : ∀ q ∈ mt_60, decode cX4_rankOf q.1 = .ok (q.2.1, q.2.2.1) ∧ mlen q.2.1 q.2.2.1 = true := mBk_ok (by decide +kernel)

theorem mb_61 : ∀ q ∈ mt_61, decode cX4_locatorCode q.1 = .ok (q.2.1, q.2.2.1) ∧ mlen q.2.1 q.2.2.1 = true := mBk_ok (by decide +kernel)

theorem mb_62 : ∀ q ∈ mt_62, decode cX4_pageOf q.1 = .ok (q.2.1, q.2.2.1) ∧ mlen q.2.1 q.2.2.1 = true := mBk_ok (by decide +kernel)

theorem mb_63 : ∀ q ∈ mt_63, decode cX4_sortOf q.1 = .ok (q.2.1, q.2.2.1) ∧ mlen q.2.1 q.2.2.1 = true := mBk_ok (by decide +kernel)

theorem mb_64 : ∀ q ∈ mt_64, decode cX4_hasLocator q.1 = .ok (q.2.1, q.2.2.1) ∧ mlen q.2.1 q.2.2.1 = true := mBk_ok (by decide +kernel)

theorem mb_65 : ∀ q ∈ mt_65, decode cX4_addLocator q.1 = .ok (q.2.1, q.2.2.1) ∧ mlen q.2.1 q.2.2.1 = true := mBk_ok (by decide +kernel)

theorem mb_66 : ∀ q ∈ mt_66, decode cX8_size q.1 = .ok (q.2.1, q.2.2.1) ∧ mlen q.2.1 q.2.2.1 = true := mBk_ok (by decide +kernel)

theorem mb_67 : ∀ q ∈ mt_67, decode cX4_seen q.1 = .ok (q.2.1, q.2.2.1) ∧ mlen q.2.1 q.2.2.1 = true := mBk_ok (by decide +kernel)

theorem mb_68 : ∀ q ∈ mt_68, decode cX4_seesAlso q.1 = .ok (q.2.1, q.2.2.1) ∧ mlen q.2.1 q.2.2.1 = true := mBk_ok (by decide +kernel)

theorem mb_69 : ∀ q ∈ mt_69, decode cX4_alsoCount q.1 = .ok (q.2.1, q.2.2.1) ∧ mlen q.2.1 q.2.2.1 = true := mBk_ok (by decide +kernel)

theorem mb_70 : ∀ q ∈ mt_70, decode cX4_addReference q.1 = .ok (q.2.1, q.2.2.1) ∧ mlen q.2.1 q.2.2.1 = true := mBk_ok (by decide +kernel)

theorem mb_71 : ∀ q ∈ mt_71, decode cX5_init q.1 = .ok (q.2.1, q.2.2.1) ∧ mlen q.2.1 q.2.2.1 = true := mBk_ok (by decide +kernel)

theorem mb_72 : ∀ q ∈ mt_72, decode cX5_count q.1 = .ok (q.2.1, q.2.2.1) ∧ mlen q.2.1 q.2.2.1 = true := mBk_ok (by decide +kernel)

theorem mb_73 : ∀ q ∈ mt_73, decode cX5_asNumber q.1 = .ok (q.2.1, q.2.2.1) ∧ mlen q.2.1 q.2.2.1 = true := mBk_ok (by decide +kernel)

theorem mb_74 : ∀ q ∈ mt_74, decode cX5_gather q.1 = .ok (q.2.1, q.2.2.1) ∧ mlen q.2.1 q.2.2.1 = true := mBk_ok (by decide +kernel)

theorem mb_75 : ∀ q ∈ mt_75, decode cX5_addPage q.1 = .ok (q.2.1, q.2.2.1) ∧ mlen q.2.1 q.2.2.1 = true := mBk_ok (by decide +kernel)

theorem mb_76 : ∀ q ∈ mt_76, decode cX5_joinFrom q.1 = .ok (q.2.1, q.2.2.1) ∧ mlen q.2.1 q.2.2.1 = true := mBk_ok (by decide +kernel)

theorem mb_77 : ∀ q ∈ mt_77, decode cX6_init q.1 = .ok (q.2.1, q.2.2.1) ∧ mlen q.2.1 q.2.2.1 = true := mBk_ok (by decide +kernel)

theorem mb_78 : ∀ q ∈ mt_78, decode cX6_isOrdered q.1 = .ok (q.2.1, q.2.2.1) ∧ mlen q.2.1 q.2.2.1 = true := mBk_ok (by decide +kernel)

theorem mb_79 : ∀ q ∈ mt_79, decode cX6_order q.1 = .ok (q.2.1, q.2.2.1) ∧ mlen q.2.1 q.2.2.1 = true := mBk_ok (by decide +kernel)

theorem mb_80 : ∀ q ∈ mt_80, decode cX6_begin q.1 = .ok (q.2.1, q.2.2.1) ∧ mlen q.2.1 q.2.2.1 = true := mBk_ok (by decide +kernel)

theorem mb_81 : ∀ q ∈ mt_81, decode cX6_addFirstWeight q.1 = .ok (q.2.1, q.2.2.1) ∧ mlen q.2.1 q.2.2.1 = true := mBk_ok (by decide +kernel)

theorem mb_82 : ∀ q ∈ mt_82, decode cX6_firstWeightOf q.1 = .ok (q.2.1, q.2.2.1) ∧ mlen q.2.1 q.2.2.1 = true := mBk_ok (by decide +kernel)

theorem mb_83 : ∀ q ∈ mt_83, decode cX6_forget q.1 = .ok (q.2.1, q.2.2.1) ∧ mlen q.2.1 q.2.2.1 = true := mBk_ok (by decide +kernel)

theorem mb_84 : ∀ q ∈ mt_84, decode cX6_before q.1 = .ok (q.2.1, q.2.2.1) ∧ mlen q.2.1 q.2.2.1 = true := mBk_ok (by decide +kernel)

theorem mb_85 : ∀ q ∈ mt_85, decode cX6_remember q.1 = .ok (q.2.1, q.2.2.1) ∧ mlen q.2.1 q.2.2.1 = true := mBk_ok (by decide +kernel)

theorem mb_86 : ∀ q ∈ mt_86, decode cX7_init q.1 = .ok (q.2.1, q.2.2.1) ∧ mlen q.2.1 q.2.2.1 = true := mBk_ok (by decide +kernel)

theorem mb_87 : ∀ q ∈ mt_87, decode cX8_size q.1 = .ok (q.2.1, q.2.2.1) ∧ mlen q.2.1 q.2.2.1 = true := mBk_ok (by decide +kernel)

theorem mb_88 : ∀ q ∈ mt_88, decode cX8_size q.1 = .ok (q.2.1, q.2.2.1) ∧ mlen q.2.1 q.2.2.1 = true := mBk_ok (by decide +kernel)

theorem mb_89 : ∀ q ∈ mt_89, decode cX8_size q.1 = .ok (q.2.1, q.2.2.1) ∧ mlen q.2.1 q.2.2.1 = true := mBk_ok (by decide +kernel)

theorem mb_90 : ∀ q ∈ mt_90, decode cX8_size q.1 = .ok (q.2.1, q.2.2.1) ∧ mlen q.2.1 q.2.2.1 = true := mBk_ok (by decide +kernel)

theorem mb_91 : ∀ q ∈ mt_91, decode cX8_size q.1 = .ok (q.2.1, q.2.2.1) ∧ mlen q.2.1 q.2.2.1 = true := mBk_ok (by decide +kernel)

theorem mb_92 : ∀ q ∈ mt_92, decode cX8_init q.1 = .ok (q.2.1, q.2.2.1) ∧ mlen q.2.1 q.2.2.1 = true := mBk_ok (by decide +kernel)

theorem mb_93 : ∀ q ∈ mt_93, decode cX8_size q.1 = .ok (q.2.1, q.2.2.1) ∧ mlen q.2.1 q.2.2.1 = true := mBk_ok (by decide +kernel)

theorem mb_94 : ∀ q ∈ mt_94, decode cX8_isEmpty q.1 = .ok (q.2.1, q.2.2.1) ∧ mlen q.2.1 q.2.2.1 = true := mBk_ok (by decide +kernel)

theorem mb_95 : ∀ q ∈ mt_95, decode cX8_at q.1 = .ok (q.2.1, q.2.2.1) ∧ mlen q.2.1 q.2.2.1 = true := mBk_ok (by decide +kernel)

theorem mb_96 : ∀ q ∈ mt_96, decode cX8_set q.1 = .ok (q.2.1, q.2.2.1) ∧ mlen q.2.1 q.2.2.1 = true := mBk_ok (by decide +kernel)

theorem mb_97 : ∀ q ∈ mt_97, decode cX8_put q.1 = .ok (q.2.1, q.2.2.1) ∧ mlen q.2.1 q.2.2.1 = true := mBk_ok (by decide +kernel)

theorem mb_98 : ∀ q ∈ mt_98, decode cX8_insert q.1 = .ok (q.2.1, q.2.2.1) ∧ mlen q.2.1 q.2.2.1 = true := mBk_ok (by decide +kernel)

theorem mb_99 : ∀ q ∈ mt_99, decode cX8_removeAt q.1 = .ok (q.2.1, q.2.2.1) ∧ mlen q.2.1 q.2.2.1 = true := mBk_ok (by decide +kernel)

theorem mb_100 : ∀ q ∈ mt_100, decode cX8_clear q.1 = .ok (q.2.1, q.2.2.1) ∧ mlen q.2.1 q.2.2.1 = true := mBk_ok (by decide +kernel)

theorem mb_101 : ∀ q ∈ mt_101, decode cX8_append q.1 = .ok (q.2.1, q.2.2.1) ∧ mlen q.2.1 q.2.2.1 = true := mBk_ok (by decide +kernel)

theorem mb_102 : ∀ q ∈ mt_102, decode cX8_copy q.1 = .ok (q.2.1, q.2.2.1) ∧ mlen q.2.1 q.2.2.1 = true := mBk_ok (by decide +kernel)

theorem mb_103 : ∀ q ∈ mt_103, decode cX8_placeOf q.1 = .ok (q.2.1, q.2.2.1) ∧ mlen q.2.1 q.2.2.1 = true := mBk_ok (by decide +kernel)

theorem mb_104 : ∀ q ∈ mt_104, decode cX8_has q.1 = .ok (q.2.1, q.2.2.1) ∧ mlen q.2.1 q.2.2.1 = true := mBk_ok (by decide +kernel)

theorem mb_105 : ∀ q ∈ mt_105, decode cX9_init q.1 = .ok (q.2.1, q.2.2.1) ∧ mlen q.2.1 q.2.2.1 = true := mBk_ok (by decide +kernel)

theorem mb_106 : ∀ q ∈ mt_106, decode cX9_addItem q.1 = .ok (q.2.1, q.2.2.1) ∧ mlen q.2.1 q.2.2.1 = true := mBk_ok (by decide +kernel)

theorem mb_107 : ∀ q ∈ mt_107, decode cX9_weigh q.1 = .ok (q.2.1, q.2.2.1) ∧ mlen q.2.1 q.2.2.1 = true := mBk_ok (by decide +kernel)

theorem mb_108 : ∀ q ∈ mt_108, decode cX9_hasOption q.1 = .ok (q.2.1, q.2.2.1) ∧ mlen q.2.1 q.2.2.1 = true := mBk_ok (by decide +kernel)

theorem mb_109 : ∀ q ∈ mt_109, decode cX9_setOption q.1 = .ok (q.2.1, q.2.2.1) ∧ mlen q.2.1 q.2.2.1 = true := mBk_ok (by decide +kernel)

theorem mb_110 : ∀ q ∈ mt_110, decode cX9_itemCount q.1 = .ok (q.2.1, q.2.2.1) ∧ mlen q.2.1 q.2.2.1 = true := mBk_ok (by decide +kernel)

theorem mb_111 : ∀ q ∈ mt_111, decode cX9_ruleCount q.1 = .ok (q.2.1, q.2.2.1) ∧ mlen q.2.1 q.2.2.1 = true := mBk_ok (by decide +kernel)

theorem mb_112 : ∀ q ∈ mt_112, decode cX9_levelAndItem q.1 = .ok (q.2.1, q.2.2.1) ∧ mlen q.2.1 q.2.2.1 = true := mBk_ok (by decide +kernel)

theorem mb_113 : ∀ q ∈ mt_113, decode cX9_knows q.1 = .ok (q.2.1, q.2.2.1) ∧ mlen q.2.1 q.2.2.1 = true := mBk_ok (by decide +kernel)

theorem mb_114 : ∀ q ∈ mt_114, decode cX9_firstWeightOf q.1 = .ok (q.2.1, q.2.2.1) ∧ mlen q.2.1 q.2.2.1 = true := mBk_ok (by decide +kernel)

theorem mb_115 : ∀ q ∈ mt_115, decode cX9_putWeights q.1 = .ok (q.2.1, q.2.2.1) ∧ mlen q.2.1 q.2.2.1 = true := mBk_ok (by decide +kernel)

theorem mb_116 : ∀ q ∈ mt_116, decode cX9_canTell q.1 = .ok (q.2.1, q.2.2.1) ∧ mlen q.2.1 q.2.2.1 = true := mBk_ok (by decide +kernel)

theorem mb_117 : ∀ q ∈ mt_117, decode cX9_canBeItem q.1 = .ok (q.2.1, q.2.2.1) ∧ mlen q.2.1 q.2.2.1 = true := mBk_ok (by decide +kernel)

theorem mb_118 : ∀ q ∈ mt_118, decode cX9_canSortAs q.1 = .ok (q.2.1, q.2.2.1) ∧ mlen q.2.1 q.2.2.1 = true := mBk_ok (by decide +kernel)

theorem mb_119 : ∀ q ∈ mt_119, decode cX9_isOneOfSeveral q.1 = .ok (q.2.1, q.2.2.1) ∧ mlen q.2.1 q.2.2.1 = true := mBk_ok (by decide +kernel)

theorem mb_120 : ∀ q ∈ mt_120, decode cX9_tell q.1 = .ok (q.2.1, q.2.2.1) ∧ mlen q.2.1 q.2.2.1 = true := mBk_ok (by decide +kernel)

theorem mb_121 : ∀ q ∈ mt_121, decode cX9_leaveList q.1 = .ok (q.2.1, q.2.2.1) ∧ mlen q.2.1 q.2.2.1 = true := mBk_ok (by decide +kernel)

theorem mb_122 : ∀ q ∈ mt_122, decode cX9_leaveSeveral q.1 = .ok (q.2.1, q.2.2.1) ∧ mlen q.2.1 q.2.2.1 = true := mBk_ok (by decide +kernel)

theorem mb_123 : ∀ q ∈ mt_123, decode cX9_putBehind q.1 = .ok (q.2.1, q.2.2.1) ∧ mlen q.2.1 q.2.2.1 = true := mBk_ok (by decide +kernel)

theorem mb_124 : ∀ q ∈ mt_124, decode cX9_putAhead q.1 = .ok (q.2.1, q.2.2.1) ∧ mlen q.2.1 q.2.2.1 = true := mBk_ok (by decide +kernel)

theorem mb_125 : ∀ q ∈ mt_125, decode cX8_size q.1 = .ok (q.2.1, q.2.2.1) ∧ mlen q.2.1 q.2.2.1 = true := mBk_ok (by decide +kernel)

theorem mb_126 : ∀ q ∈ mt_126, decode cX8_size q.1 = .ok (q.2.1, q.2.2.1) ∧ mlen q.2.1 q.2.2.1 = true := mBk_ok (by decide +kernel)

theorem mbx_127_0_0 : ∀ q ∈ (mt_127_0.drop 0).take 40, decode cX10_init q.1 = .ok (q.2.1, q.2.2.1) ∧ mlen q.2.1 q.2.2.1 = true := mBk_ok (by decide +kernel)

theorem mbx_127_0_40 : ∀ q ∈ (mt_127_0.drop 40).take 40, decode cX10_init q.1 = .ok (q.2.1, q.2.2.1) ∧ mlen q.2.1 q.2.2.1 = true := mBk_ok (by decide +kernel)

theorem mbx_127_0_80 : ∀ q ∈ (mt_127_0.drop 80).take 40, decode cX10_init q.1 = .ok (q.2.1, q.2.2.1) ∧ mlen q.2.1 q.2.2.1 = true := mBk_ok (by decide +kernel)

theorem mb_127_0 : ∀ q ∈ mt_127_0, decode cX10_init q.1 = .ok (q.2.1, q.2.2.1) ∧ mlen q.2.1 q.2.2.1 = true := mJoin 40 3 (by decide +kernel) fun j hj => by
  rcases (show j = 0 ∨ j = 1 ∨ j = 2 by omega) with rfl | rfl | rfl
  · exact mbx_127_0_0
  · exact mbx_127_0_40
  · exact mbx_127_0_80

theorem mb_127_1 : ∀ q ∈ mt_127_1, decode cX10_init q.1 = .ok (q.2.1, q.2.2.1) ∧ mlen q.2.1 q.2.2.1 = true := mBk_ok (by decide +kernel)

theorem mb_127 : ∀ q ∈ mt_127, decode cX10_init q.1 = .ok (q.2.1, q.2.2.1) ∧ mlen q.2.1 q.2.2.1 = true := mAllApp mb_127_0 (mb_127_1)

theorem mb_128 : ∀ q ∈ mt_128, decode cX10_sign q.1 = .ok (q.2.1, q.2.2.1) ∧ mlen q.2.1 q.2.2.1 = true := mBk_ok (by decide +kernel)

theorem mb_129 : ∀ q ∈ mt_129, decode cX10_compose q.1 = .ok (q.2.1, q.2.2.1) ∧ mlen q.2.1 q.2.2.1 = true := mBk_ok (by decide +kernel)

theorem mb_130 : ∀ q ∈ mt_130, decode cX10_text q.1 = .ok (q.2.1, q.2.2.1) ∧ mlen q.2.1 q.2.2.1 = true := mBk_ok (by decide +kernel)

theorem mb_131 : ∀ q ∈ mt_131, decode cX10_wipe q.1 = .ok (q.2.1, q.2.2.1) ∧ mlen q.2.1 q.2.2.1 = true := mBk_ok (by decide +kernel)

theorem mb_132 : ∀ q ∈ mt_132, decode cX10_anchor q.1 = .ok (q.2.1, q.2.2.1) ∧ mlen q.2.1 q.2.2.1 = true := mBk_ok (by decide +kernel)

theorem mb_133 : ∀ q ∈ mt_133, decode cX10_rule q.1 = .ok (q.2.1, q.2.2.1) ∧ mlen q.2.1 q.2.2.1 = true := mBk_ok (by decide +kernel)

theorem mb_134 : ∀ q ∈ mt_134, decode cX8_size q.1 = .ok (q.2.1, q.2.2.1) ∧ mlen q.2.1 q.2.2.1 = true := mBk_ok (by decide +kernel)

theorem mb_135 : ∀ q ∈ mt_135, decode cX10_option q.1 = .ok (q.2.1, q.2.2.1) ∧ mlen q.2.1 q.2.2.1 = true := mBk_ok (by decide +kernel)

theorem mb_136 : ∀ q ∈ mt_136, decode cX10_heading q.1 = .ok (q.2.1, q.2.2.1) ∧ mlen q.2.1 q.2.2.1 = true := mBk_ok (by decide +kernel)

theorem mb_137 : ∀ q ∈ mt_137, decode cX10_entry q.1 = .ok (q.2.1, q.2.2.1) ∧ mlen q.2.1 q.2.2.1 = true := mBk_ok (by decide +kernel)

theorem mb_138 : ∀ q ∈ mt_138, decode cX10_form q.1 = .ok (q.2.1, q.2.2.1) ∧ mlen q.2.1 q.2.2.1 = true := mBk_ok (by decide +kernel)

theorem mb_139 : ∀ q ∈ mt_139, decode cX10_locate q.1 = .ok (q.2.1, q.2.2.1) ∧ mlen q.2.1 q.2.2.1 = true := mBk_ok (by decide +kernel)

theorem mb_140 : ∀ q ∈ mt_140, decode cX10_see q.1 = .ok (q.2.1, q.2.2.1) ∧ mlen q.2.1 q.2.2.1 = true := mBk_ok (by decide +kernel)

theorem mb_141 : ∀ q ∈ mt_141, decode cX10_word q.1 = .ok (q.2.1, q.2.2.1) ∧ mlen q.2.1 q.2.2.1 = true := mBk_ok (by decide +kernel)

theorem mb_142 : ∀ q ∈ mt_142, decode cX8_size q.1 = .ok (q.2.1, q.2.2.1) ∧ mlen q.2.1 q.2.2.1 = true := mBk_ok (by decide +kernel)

theorem mb_143 : ∀ q ∈ mt_143, decode cX8_size q.1 = .ok (q.2.1, q.2.2.1) ∧ mlen q.2.1 q.2.2.1 = true := mBk_ok (by decide +kernel)

theorem mb_144 : ∀ q ∈ mt_144, decode cX8_size q.1 = .ok (q.2.1, q.2.2.1) ∧ mlen q.2.1 q.2.2.1 = true := mBk_ok (by decide +kernel)

theorem mb_145 : ∀ q ∈ mt_145, decode cX8_size q.1 = .ok (q.2.1, q.2.2.1) ∧ mlen q.2.1 q.2.2.1 = true := mBk_ok (by decide +kernel)

theorem mb_146 : ∀ q ∈ mt_146, decode cX10_columns q.1 = .ok (q.2.1, q.2.2.1) ∧ mlen q.2.1 q.2.2.1 = true := mBk_ok (by decide +kernel)

theorem mb_147 : ∀ q ∈ mt_147, decode cX10_texts q.1 = .ok (q.2.1, q.2.2.1) ∧ mlen q.2.1 q.2.2.1 = true := mBk_ok (by decide +kernel)

theorem mb_148 : ∀ q ∈ mt_148, decode cX10_signAt q.1 = .ok (q.2.1, q.2.2.1) ∧ mlen q.2.1 q.2.2.1 = true := mBk_ok (by decide +kernel)

theorem mb_149 : ∀ q ∈ mt_149, decode cX10_rules q.1 = .ok (q.2.1, q.2.2.1) ∧ mlen q.2.1 q.2.2.1 = true := mBk_ok (by decide +kernel)

theorem mb_150 : ∀ q ∈ mt_150, decode cX10_itemAt q.1 = .ok (q.2.1, q.2.2.1) ∧ mlen q.2.1 q.2.2.1 = true := mBk_ok (by decide +kernel)

theorem mb_151 : ∀ q ∈ mt_151, decode cX8_size q.1 = .ok (q.2.1, q.2.2.1) ∧ mlen q.2.1 q.2.2.1 = true := mBk_ok (by decide +kernel)

theorem mb_152 : ∀ q ∈ mt_152, decode cX10_keyAt q.1 = .ok (q.2.1, q.2.2.1) ∧ mlen q.2.1 q.2.2.1 = true := mBk_ok (by decide +kernel)

theorem mb_153 : ∀ q ∈ mt_153, decode cX10_compare q.1 = .ok (q.2.1, q.2.2.1) ∧ mlen q.2.1 q.2.2.1 = true := mBk_ok (by decide +kernel)

theorem mb_154 : ∀ q ∈ mt_154, decode cX10_compareByLevels q.1 = .ok (q.2.1, q.2.2.1) ∧ mlen q.2.1 q.2.2.1 = true := mBk_ok (by decide +kernel)

theorem mb_155 : ∀ q ∈ mt_155, decode cX8_size q.1 = .ok (q.2.1, q.2.2.1) ∧ mlen q.2.1 q.2.2.1 = true := mBk_ok (by decide +kernel)

theorem mb_156 : ∀ q ∈ mt_156, decode cX10_entries q.1 = .ok (q.2.1, q.2.2.1) ∧ mlen q.2.1 q.2.2.1 = true := mBk_ok (by decide +kernel)

theorem mb_157 : ∀ q ∈ mt_157, decode cX10_entryAt q.1 = .ok (q.2.1, q.2.2.1) ∧ mlen q.2.1 q.2.2.1 = true := mBk_ok (by decide +kernel)

theorem mb_158 : ∀ q ∈ mt_158, decode cX10_beneath q.1 = .ok (q.2.1, q.2.2.1) ∧ mlen q.2.1 q.2.2.1 = true := mBk_ok (by decide +kernel)

theorem mb_159 : ∀ q ∈ mt_159, decode cX10_locatorAt q.1 = .ok (q.2.1, q.2.2.1) ∧ mlen q.2.1 q.2.2.1 = true := mBk_ok (by decide +kernel)

theorem mb_160 : ∀ q ∈ mt_160, decode cX10_leads q.1 = .ok (q.2.1, q.2.2.1) ∧ mlen q.2.1 q.2.2.1 = true := mBk_ok (by decide +kernel)

theorem mb_161 : ∀ q ∈ mt_161, decode cX10_dead q.1 = .ok (q.2.1, q.2.2.1) ∧ mlen q.2.1 q.2.2.1 = true := mBk_ok (by decide +kernel)

theorem mb_162 : ∀ q ∈ mt_162, decode cX10_moved q.1 = .ok (q.2.1, q.2.2.1) ∧ mlen q.2.1 q.2.2.1 = true := mBk_ok (by decide +kernel)

theorem mb_163 : ∀ q ∈ mt_163, decode cX10_columnOf q.1 = .ok (q.2.1, q.2.2.1) ∧ mlen q.2.1 q.2.2.1 = true := mBk_ok (by decide +kernel)

theorem mb_164 : ∀ q ∈ mt_164, decode cX10_lineAt q.1 = .ok (q.2.1, q.2.2.1) ∧ mlen q.2.1 q.2.2.1 = true := mBk_ok (by decide +kernel)

theorem mb_165 : ∀ q ∈ mt_165, decode cX10_isThere q.1 = .ok (q.2.1, q.2.2.1) ∧ mlen q.2.1 q.2.2.1 = true := mBk_ok (by decide +kernel)

theorem mb_166 : ∀ q ∈ mt_166, decode cX10_hasText q.1 = .ok (q.2.1, q.2.2.1) ∧ mlen q.2.1 q.2.2.1 = true := mBk_ok (by decide +kernel)

theorem mb_167 : ∀ q ∈ mt_167, decode cX10_hasEntry q.1 = .ok (q.2.1, q.2.2.1) ∧ mlen q.2.1 q.2.2.1 = true := mBk_ok (by decide +kernel)

theorem mb_168 : ∀ q ∈ mt_168, decode cX10_isInIndex q.1 = .ok (q.2.1, q.2.2.1) ∧ mlen q.2.1 q.2.2.1 = true := mBk_ok (by decide +kernel)

theorem mb_169 : ∀ q ∈ mt_169, decode cX10_textNumbered q.1 = .ok (q.2.1, q.2.2.1) ∧ mlen q.2.1 q.2.2.1 = true := mBk_ok (by decide +kernel)

theorem mb_170 : ∀ q ∈ mt_170, decode cX10_keyNumbered q.1 = .ok (q.2.1, q.2.2.1) ∧ mlen q.2.1 q.2.2.1 = true := mBk_ok (by decide +kernel)

theorem mb_171 : ∀ q ∈ mt_171, decode cX10_entryNumbered q.1 = .ok (q.2.1, q.2.2.1) ∧ mlen q.2.1 q.2.2.1 = true := mBk_ok (by decide +kernel)

theorem mb_172 : ∀ q ∈ mt_172, decode cX10_tailoringNumbered q.1 = .ok (q.2.1, q.2.2.1) ∧ mlen q.2.1 q.2.2.1 = true := mBk_ok (by decide +kernel)

theorem mb_173 : ∀ q ∈ mt_173, decode cX10_indexNumbered q.1 = .ok (q.2.1, q.2.2.1) ∧ mlen q.2.1 q.2.2.1 = true := mBk_ok (by decide +kernel)

theorem mb_174 : ∀ q ∈ mt_174, decode cX10_isTailoring q.1 = .ok (q.2.1, q.2.2.1) ∧ mlen q.2.1 q.2.2.1 = true := mBk_ok (by decide +kernel)

theorem mb_175 : ∀ q ∈ mt_175, decode cX10_isStrength q.1 = .ok (q.2.1, q.2.2.1) ∧ mlen q.2.1 q.2.2.1 = true := mBk_ok (by decide +kernel)

theorem mb_176 : ∀ q ∈ mt_176, decode cX10_isPage q.1 = .ok (q.2.1, q.2.2.1) ∧ mlen q.2.1 q.2.2.1 = true := mBk_ok (by decide +kernel)

theorem mb_177 : ∀ q ∈ mt_177, decode cX10_isSide q.1 = .ok (q.2.1, q.2.2.1) ∧ mlen q.2.1 q.2.2.1 = true := mBk_ok (by decide +kernel)

theorem mb_178 : ∀ q ∈ mt_178, decode cX10_isLetter q.1 = .ok (q.2.1, q.2.2.1) ∧ mlen q.2.1 q.2.2.1 = true := mBk_ok (by decide +kernel)

theorem mb_179 : ∀ q ∈ mt_179, decode cX10_isMark q.1 = .ok (q.2.1, q.2.2.1) ∧ mlen q.2.1 q.2.2.1 = true := mBk_ok (by decide +kernel)

theorem mb_180 : ∀ q ∈ mt_180, decode cX10_isBlank q.1 = .ok (q.2.1, q.2.2.1) ∧ mlen q.2.1 q.2.2.1 = true := mBk_ok (by decide +kernel)

theorem mb_181 : ∀ q ∈ mt_181, decode cX10_isDigit q.1 = .ok (q.2.1, q.2.2.1) ∧ mlen q.2.1 q.2.2.1 = true := mBk_ok (by decide +kernel)

theorem mb_182 : ∀ q ∈ mt_182, decode cX10_classOf q.1 = .ok (q.2.1, q.2.2.1) ∧ mlen q.2.1 q.2.2.1 = true := mBk_ok (by decide +kernel)

theorem mb_183 : ∀ q ∈ mt_183, decode cX10_scriptOf q.1 = .ok (q.2.1, q.2.2.1) ∧ mlen q.2.1 q.2.2.1 = true := mBk_ok (by decide +kernel)

theorem mb_184 : ∀ q ∈ mt_184, decode cX10_codeOf q.1 = .ok (q.2.1, q.2.2.1) ∧ mlen q.2.1 q.2.2.1 = true := mBk_ok (by decide +kernel)

theorem mb_185 : ∀ q ∈ mt_185, decode cX10_codeOfSign q.1 = .ok (q.2.1, q.2.2.1) ∧ mlen q.2.1 q.2.2.1 = true := mBk_ok (by decide +kernel)

theorem mb_186 : ∀ q ∈ mt_186, decode cX10_signsIn q.1 = .ok (q.2.1, q.2.2.1) ∧ mlen q.2.1 q.2.2.1 = true := mBk_ok (by decide +kernel)

theorem mb_187 : ∀ q ∈ mt_187, decode cX10_signIn q.1 = .ok (q.2.1, q.2.2.1) ∧ mlen q.2.1 q.2.2.1 = true := mBk_ok (by decide +kernel)

theorem mb_188 : ∀ q ∈ mt_188, decode cX10_orderOf q.1 = .ok (q.2.1, q.2.2.1) ∧ mlen q.2.1 q.2.2.1 = true := mBk_ok (by decide +kernel)

theorem mb_189 : ∀ q ∈ mt_189, decode cX10_forgetOrders q.1 = .ok (q.2.1, q.2.2.1) ∧ mlen q.2.1 q.2.2.1 = true := mBk_ok (by decide +kernel)

theorem mb_190 : ∀ q ∈ mt_190, decode cX10_putSubEntries q.1 = .ok (q.2.1, q.2.2.1) ∧ mlen q.2.1 q.2.2.1 = true := mBk_ok (by decide +kernel)

theorem mb_191 : ∀ q ∈ mt_191, decode cX10_insertByKey q.1 = .ok (q.2.1, q.2.2.1) ∧ mlen q.2.1 q.2.2.1 = true := mBk_ok (by decide +kernel)

theorem mb_192 : ∀ q ∈ mt_192, decode cX10_compareRows q.1 = .ok (q.2.1, q.2.2.1) ∧ mlen q.2.1 q.2.2.1 = true := mBk_ok (by decide +kernel)

theorem mb_193 : ∀ q ∈ mt_193, decode cX10_putForm q.1 = .ok (q.2.1, q.2.2.1) ∧ mlen q.2.1 q.2.2.1 = true := mBk_ok (by decide +kernel)

theorem mb_194 : ∀ q ∈ mt_194, decode cX10_headingAbove q.1 = .ok (q.2.1, q.2.2.1) ∧ mlen q.2.1 q.2.2.1 = true := mBk_ok (by decide +kernel)

theorem mb_195 : ∀ q ∈ mt_195, decode cX10_headingFor q.1 = .ok (q.2.1, q.2.2.1) ∧ mlen q.2.1 q.2.2.1 = true := mBk_ok (by decide +kernel)

theorem mb_196 : ∀ q ∈ mt_196, decode cX10_firstLetter q.1 = .ok (q.2.1, q.2.2.1) ∧ mlen q.2.1 q.2.2.1 = true := mBk_ok (by decide +kernel)

theorem mb_197 : ∀ q ∈ mt_197, decode cX10_endOfReferences q.1 = .ok (q.2.1, q.2.2.1) ∧ mlen q.2.1 q.2.2.1 = true := mBk_ok (by decide +kernel)

theorem mb_198 : ∀ q ∈ mt_198, decode cX10_isLocated q.1 = .ok (q.2.1, q.2.2.1) ∧ mlen q.2.1 q.2.2.1 = true := mBk_ok (by decide +kernel)

theorem mb_199 : ∀ q ∈ mt_199, decode cX10_referencesTo q.1 = .ok (q.2.1, q.2.2.1) ∧ mlen q.2.1 q.2.2.1 = true := mBk_ok (by decide +kernel)

theorem mbx_200_0_0 : ∀ q ∈ (mt_200_0.drop 0).take 40, decode cX10_lineInColumns q.1 = .ok (q.2.1, q.2.2.1) ∧ mlen q.2.1 q.2.2.1 = true := mBk_ok (by decide +kernel)

theorem mbx_200_0_40 : ∀ q ∈ (mt_200_0.drop 40).take 40, decode cX10_lineInColumns q.1 = .ok (q.2.1, q.2.2.1) ∧ mlen q.2.1 q.2.2.1 = true := mBk_ok (by decide +kernel)

theorem mbx_200_0_80 : ∀ q ∈ (mt_200_0.drop 80).take 40, decode cX10_lineInColumns q.1 = .ok (q.2.1, q.2.2.1) ∧ mlen q.2.1 q.2.2.1 = true := mBk_ok (by decide +kernel)

theorem mb_200_0 : ∀ q ∈ mt_200_0, decode cX10_lineInColumns q.1 = .ok (q.2.1, q.2.2.1) ∧ mlen q.2.1 q.2.2.1 = true := mJoin 40 3 (by decide +kernel) fun j hj => by
  rcases (show j = 0 ∨ j = 1 ∨ j = 2 by omega) with rfl | rfl | rfl
  · exact mbx_200_0_0
  · exact mbx_200_0_40
  · exact mbx_200_0_80

theorem mb_200_1 : ∀ q ∈ mt_200_1, decode cX10_lineInColumns q.1 = .ok (q.2.1, q.2.2.1) ∧ mlen q.2.1 q.2.2.1 = true := mBk_ok (by decide +kernel)

theorem mb_200 : ∀ q ∈ mt_200, decode cX10_lineInColumns q.1 = .ok (q.2.1, q.2.2.1) ∧ mlen q.2.1 q.2.2.1 = true := mAllApp mb_200_0 (mb_200_1)

theorem mb_201 : ∀ q ∈ mt_201, decode cX10_needsNewColumn q.1 = .ok (q.2.1, q.2.2.1) ∧ mlen q.2.1 q.2.2.1 = true := mBk_ok (by decide +kernel)

theorem mb_202 : ∀ q ∈ mt_202, decode cX10_linesOf q.1 = .ok (q.2.1, q.2.2.1) ∧ mlen q.2.1 q.2.2.1 = true := mBk_ok (by decide +kernel)

theorem mb_203 : ∀ q ∈ mt_203, decode cX10_orderLines q.1 = .ok (q.2.1, q.2.2.1) ∧ mlen q.2.1 q.2.2.1 = true := mBk_ok (by decide +kernel)

theorem mb_204 : ∀ q ∈ mt_204, decode cX10_insertByNeighbours q.1 = .ok (q.2.1, q.2.2.1) ∧ mlen q.2.1 q.2.2.1 = true := mBk_ok (by decide +kernel)

theorem mb_205 : ∀ q ∈ mt_205, decode cX10_compareNeighbours q.1 = .ok (q.2.1, q.2.2.1) ∧ mlen q.2.1 q.2.2.1 = true := mBk_ok (by decide +kernel)

theorem mb_206 : ∀ q ∈ mt_206, decode cX10_compareWords q.1 = .ok (q.2.1, q.2.2.1) ∧ mlen q.2.1 q.2.2.1 = true := mBk_ok (by decide +kernel)

theorem mb_207 : ∀ q ∈ mt_207, decode cX8_size q.1 = .ok (q.2.1, q.2.2.1) ∧ mlen q.2.1 q.2.2.1 = true := mBk_ok (by decide +kernel)

theorem mb_208 : ∀ q ∈ mt_208, decode cX8_size q.1 = .ok (q.2.1, q.2.2.1) ∧ mlen q.2.1 q.2.2.1 = true := mBk_ok (by decide +kernel)

theorem mb_209 : ∀ q ∈ mt_209, decode cX8_size q.1 = .ok (q.2.1, q.2.2.1) ∧ mlen q.2.1 q.2.2.1 = true := mBk_ok (by decide +kernel)

theorem mb_210 : ∀ q ∈ mt_210, decode cX8_size q.1 = .ok (q.2.1, q.2.2.1) ∧ mlen q.2.1 q.2.2.1 = true := mBk_ok (by decide +kernel)

theorem mb_211 : ∀ q ∈ mt_211, decode cX8_size q.1 = .ok (q.2.1, q.2.2.1) ∧ mlen q.2.1 q.2.2.1 = true := mBk_ok (by decide +kernel)

theorem mb_212 : ∀ q ∈ mt_212, decode cX8_size q.1 = .ok (q.2.1, q.2.2.1) ∧ mlen q.2.1 q.2.2.1 = true := mBk_ok (by decide +kernel)

theorem mb_213 : ∀ q ∈ mt_213, decode cX8_size q.1 = .ok (q.2.1, q.2.2.1) ∧ mlen q.2.1 q.2.2.1 = true := mBk_ok (by decide +kernel)

theorem mb_214 : ∀ q ∈ mt_214, decode cX8_size q.1 = .ok (q.2.1, q.2.2.1) ∧ mlen q.2.1 q.2.2.1 = true := mBk_ok (by decide +kernel)

theorem mb_215 : ∀ q ∈ mt_215, decode cX8_size q.1 = .ok (q.2.1, q.2.2.1) ∧ mlen q.2.1 q.2.2.1 = true := mBk_ok (by decide +kernel)

theorem mb_216 : ∀ q ∈ mt_216, decode cX8_size q.1 = .ok (q.2.1, q.2.2.1) ∧ mlen q.2.1 q.2.2.1 = true := mBk_ok (by decide +kernel)

theorem mb_217 : ∀ q ∈ mt_217, decode cX8_size q.1 = .ok (q.2.1, q.2.2.1) ∧ mlen q.2.1 q.2.2.1 = true := mBk_ok (by decide +kernel)

theorem mb_218 : ∀ q ∈ mt_218, decode cX8_size q.1 = .ok (q.2.1, q.2.2.1) ∧ mlen q.2.1 q.2.2.1 = true := mBk_ok (by decide +kernel)

theorem mb_219 : ∀ q ∈ mt_219, decode cX8_size q.1 = .ok (q.2.1, q.2.2.1) ∧ mlen q.2.1 q.2.2.1 = true := mBk_ok (by decide +kernel)

theorem mb_220 : ∀ q ∈ mt_220, decode cX8_size q.1 = .ok (q.2.1, q.2.2.1) ∧ mlen q.2.1 q.2.2.1 = true := mBk_ok (by decide +kernel)

theorem mb_221 : ∀ q ∈ mt_221, decode cX8_size q.1 = .ok (q.2.1, q.2.2.1) ∧ mlen q.2.1 q.2.2.1 = true := mBk_ok (by decide +kernel)

theorem mb_222 : ∀ q ∈ mt_222, decode cX8_size q.1 = .ok (q.2.1, q.2.2.1) ∧ mlen q.2.1 q.2.2.1 = true := mBk_ok (by decide +kernel)

theorem mb_223 : ∀ q ∈ mt_223, decode cX8_size q.1 = .ok (q.2.1, q.2.2.1) ∧ mlen q.2.1 q.2.2.1 = true := mBk_ok (by decide +kernel)

theorem mb_224 : ∀ q ∈ mt_224, decode cX8_size q.1 = .ok (q.2.1, q.2.2.1) ∧ mlen q.2.1 q.2.2.1 = true := mBk_ok (by decide +kernel)

theorem mb_225 : ∀ q ∈ mt_225, decode cX8_size q.1 = .ok (q.2.1, q.2.2.1) ∧ mlen q.2.1 q.2.2.1 = true := mBk_ok (by decide +kernel)

theorem mb_226 : ∀ q ∈ mt_226, decode cX8_size q.1 = .ok (q.2.1, q.2.2.1) ∧ mlen q.2.1 q.2.2.1 = true := mBk_ok (by decide +kernel)

theorem mb_227 : ∀ q ∈ mt_227, decode cX8_size q.1 = .ok (q.2.1, q.2.2.1) ∧ mlen q.2.1 q.2.2.1 = true := mBk_ok (by decide +kernel)

theorem mb_228 : ∀ q ∈ mt_228, decode cX8_size q.1 = .ok (q.2.1, q.2.2.1) ∧ mlen q.2.1 q.2.2.1 = true := mBk_ok (by decide +kernel)

theorem mb_229 : ∀ q ∈ mt_229, decode cX8_size q.1 = .ok (q.2.1, q.2.2.1) ∧ mlen q.2.1 q.2.2.1 = true := mBk_ok (by decide +kernel)

theorem mb_230 : ∀ q ∈ mt_230, decode cX8_size q.1 = .ok (q.2.1, q.2.2.1) ∧ mlen q.2.1 q.2.2.1 = true := mBk_ok (by decide +kernel)

theorem mb_231 : ∀ q ∈ mt_231, decode cX8_size q.1 = .ok (q.2.1, q.2.2.1) ∧ mlen q.2.1 q.2.2.1 = true := mBk_ok (by decide +kernel)

theorem mb_232 : ∀ q ∈ mt_232, decode cX8_size q.1 = .ok (q.2.1, q.2.2.1) ∧ mlen q.2.1 q.2.2.1 = true := mBk_ok (by decide +kernel)

theorem mb_233 : ∀ q ∈ mt_233, decode cX8_size q.1 = .ok (q.2.1, q.2.2.1) ∧ mlen q.2.1 q.2.2.1 = true := mBk_ok (by decide +kernel)

theorem mb_234 : ∀ q ∈ mt_234, decode cX8_size q.1 = .ok (q.2.1, q.2.2.1) ∧ mlen q.2.1 q.2.2.1 = true := mBk_ok (by decide +kernel)

theorem mb_235 : ∀ q ∈ mt_235, decode cX8_size q.1 = .ok (q.2.1, q.2.2.1) ∧ mlen q.2.1 q.2.2.1 = true := mBk_ok (by decide +kernel)

theorem mb_236 : ∀ q ∈ mt_236, decode cX8_size q.1 = .ok (q.2.1, q.2.2.1) ∧ mlen q.2.1 q.2.2.1 = true := mBk_ok (by decide +kernel)

theorem mb_237 : ∀ q ∈ mt_237, decode cX8_size q.1 = .ok (q.2.1, q.2.2.1) ∧ mlen q.2.1 q.2.2.1 = true := mBk_ok (by decide +kernel)

theorem mb_238 : ∀ q ∈ mt_238, decode cX8_size q.1 = .ok (q.2.1, q.2.2.1) ∧ mlen q.2.1 q.2.2.1 = true := mBk_ok (by decide +kernel)

theorem mb_239 : ∀ q ∈ mt_239, decode cX8_size q.1 = .ok (q.2.1, q.2.2.1) ∧ mlen q.2.1 q.2.2.1 = true := mBk_ok (by decide +kernel)

theorem mb_240 : ∀ q ∈ mt_240, decode cX8_size q.1 = .ok (q.2.1, q.2.2.1) ∧ mlen q.2.1 q.2.2.1 = true := mBk_ok (by decide +kernel)

theorem mb_241 : ∀ q ∈ mt_241, decode cX8_size q.1 = .ok (q.2.1, q.2.2.1) ∧ mlen q.2.1 q.2.2.1 = true := mBk_ok (by decide +kernel)

theorem mb_242 : ∀ q ∈ mt_242, decode cX8_size q.1 = .ok (q.2.1, q.2.2.1) ∧ mlen q.2.1 q.2.2.1 = true := mBk_ok (by decide +kernel)

theorem mb_243 : ∀ q ∈ mt_243, decode cX8_size q.1 = .ok (q.2.1, q.2.2.1) ∧ mlen q.2.1 q.2.2.1 = true := mBk_ok (by decide +kernel)

theorem mb_244 : ∀ q ∈ mt_244, decode cX8_size q.1 = .ok (q.2.1, q.2.2.1) ∧ mlen q.2.1 q.2.2.1 = true := mBk_ok (by decide +kernel)

theorem mb_245 : ∀ q ∈ mt_245, decode cX8_size q.1 = .ok (q.2.1, q.2.2.1) ∧ mlen q.2.1 q.2.2.1 = true := mBk_ok (by decide +kernel)

theorem mb_246 : ∀ q ∈ mt_246, decode cX8_size q.1 = .ok (q.2.1, q.2.2.1) ∧ mlen q.2.1 q.2.2.1 = true := mBk_ok (by decide +kernel)

theorem mb_247 : ∀ q ∈ mt_247, decode cX8_size q.1 = .ok (q.2.1, q.2.2.1) ∧ mlen q.2.1 q.2.2.1 = true := mBk_ok (by decide +kernel)

theorem mb_248 : ∀ q ∈ mt_248, decode cX8_size q.1 = .ok (q.2.1, q.2.2.1) ∧ mlen q.2.1 q.2.2.1 = true := mBk_ok (by decide +kernel)

theorem mb_249 : ∀ q ∈ mt_249, decode cX8_size q.1 = .ok (q.2.1, q.2.2.1) ∧ mlen q.2.1 q.2.2.1 = true := mBk_ok (by decide +kernel)

theorem mb_250 : ∀ q ∈ mt_250, decode cX8_size q.1 = .ok (q.2.1, q.2.2.1) ∧ mlen q.2.1 q.2.2.1 = true := mBk_ok (by decide +kernel)

theorem mb_251 : ∀ q ∈ mt_251, decode cX8_size q.1 = .ok (q.2.1, q.2.2.1) ∧ mlen q.2.1 q.2.2.1 = true := mBk_ok (by decide +kernel)

theorem mb_252 : ∀ q ∈ mt_252, decode cX8_size q.1 = .ok (q.2.1, q.2.2.1) ∧ mlen q.2.1 q.2.2.1 = true := mBk_ok (by decide +kernel)

theorem mb_253 : ∀ q ∈ mt_253, decode cX8_size q.1 = .ok (q.2.1, q.2.2.1) ∧ mlen q.2.1 q.2.2.1 = true := mBk_ok (by decide +kernel)

theorem mb_254 : ∀ q ∈ mt_254, decode cX8_size q.1 = .ok (q.2.1, q.2.2.1) ∧ mlen q.2.1 q.2.2.1 = true := mBk_ok (by decide +kernel)

theorem mb_255 : ∀ q ∈ mt_255, decode cX8_size q.1 = .ok (q.2.1, q.2.2.1) ∧ mlen q.2.1 q.2.2.1 = true := mBk_ok (by decide +kernel)

theorem mb_256 : ∀ q ∈ mt_256, decode cX8_size q.1 = .ok (q.2.1, q.2.2.1) ∧ mlen q.2.1 q.2.2.1 = true := mBk_ok (by decide +kernel)

theorem mb_257 : ∀ q ∈ mt_257, decode cX8_size q.1 = .ok (q.2.1, q.2.2.1) ∧ mlen q.2.1 q.2.2.1 = true := mBk_ok (by decide +kernel)

theorem mb_258 : ∀ q ∈ mt_258, decode cX8_size q.1 = .ok (q.2.1, q.2.2.1) ∧ mlen q.2.1 q.2.2.1 = true := mBk_ok (by decide +kernel)

theorem mb_259 : ∀ q ∈ mt_259, decode cX8_size q.1 = .ok (q.2.1, q.2.2.1) ∧ mlen q.2.1 q.2.2.1 = true := mBk_ok (by decide +kernel)

theorem mb_260 : ∀ q ∈ mt_260, decode cX8_size q.1 = .ok (q.2.1, q.2.2.1) ∧ mlen q.2.1 q.2.2.1 = true := mBk_ok (by decide +kernel)

theorem mb_261 : ∀ q ∈ mt_261, decode cX8_size q.1 = .ok (q.2.1, q.2.2.1) ∧ mlen q.2.1 q.2.2.1 = true := mBk_ok (by decide +kernel)

theorem mb_262 : ∀ q ∈ mt_262, decode cX8_size q.1 = .ok (q.2.1, q.2.2.1) ∧ mlen q.2.1 q.2.2.1 = true := mBk_ok (by decide +kernel)

theorem mb_263 : ∀ q ∈ mt_263, decode cX8_size q.1 = .ok (q.2.1, q.2.2.1) ∧ mlen q.2.1 q.2.2.1 = true := mBk_ok (by decide +kernel)

theorem mb_264 : ∀ q ∈ mt_264, decode cX8_size q.1 = .ok (q.2.1, q.2.2.1) ∧ mlen q.2.1 q.2.2.1 = true := mBk_ok (by decide +kernel)

theorem mb_265 : ∀ q ∈ mt_265, decode cX8_size q.1 = .ok (q.2.1, q.2.2.1) ∧ mlen q.2.1 q.2.2.1 = true := mBk_ok (by decide +kernel)

theorem mb_266 : ∀ q ∈ mt_266, decode cX8_size q.1 = .ok (q.2.1, q.2.2.1) ∧ mlen q.2.1 q.2.2.1 = true := mBk_ok (by decide +kernel)

theorem mb_267 : ∀ q ∈ mt_267, decode cX8_size q.1 = .ok (q.2.1, q.2.2.1) ∧ mlen q.2.1 q.2.2.1 = true := mBk_ok (by decide +kernel)

theorem mb_268 : ∀ q ∈ mt_268, decode cX8_size q.1 = .ok (q.2.1, q.2.2.1) ∧ mlen q.2.1 q.2.2.1 = true := mBk_ok (by decide +kernel)

theorem mb_269 : ∀ q ∈ mt_269, decode cX8_size q.1 = .ok (q.2.1, q.2.2.1) ∧ mlen q.2.1 q.2.2.1 = true := mBk_ok (by decide +kernel)

theorem mb_270 : ∀ q ∈ mt_270, decode cX8_size q.1 = .ok (q.2.1, q.2.2.1) ∧ mlen q.2.1 q.2.2.1 = true := mBk_ok (by decide +kernel)

theorem mb_271 : ∀ q ∈ mt_271, decode cX8_size q.1 = .ok (q.2.1, q.2.2.1) ∧ mlen q.2.1 q.2.2.1 = true := mBk_ok (by decide +kernel)

theorem mb_272 : ∀ q ∈ mt_272, decode cX8_size q.1 = .ok (q.2.1, q.2.2.1) ∧ mlen q.2.1 q.2.2.1 = true := mBk_ok (by decide +kernel)

theorem mb_273 : ∀ q ∈ mt_273, decode cX8_size q.1 = .ok (q.2.1, q.2.2.1) ∧ mlen q.2.1 q.2.2.1 = true := mBk_ok (by decide +kernel)

theorem mb_274 : ∀ q ∈ mt_274, decode cX8_size q.1 = .ok (q.2.1, q.2.2.1) ∧ mlen q.2.1 q.2.2.1 = true := mBk_ok (by decide +kernel)

theorem mb_275 : ∀ q ∈ mt_275, decode cX8_size q.1 = .ok (q.2.1, q.2.2.1) ∧ mlen q.2.1 q.2.2.1 = true := mBk_ok (by decide +kernel)

theorem mb_276 : ∀ q ∈ mt_276, decode cX8_size q.1 = .ok (q.2.1, q.2.2.1) ∧ mlen q.2.1 q.2.2.1 = true := mBk_ok (by decide +kernel)

theorem mb_277 : ∀ q ∈ mt_277, decode cX8_size q.1 = .ok (q.2.1, q.2.2.1) ∧ mlen q.2.1 q.2.2.1 = true := mBk_ok (by decide +kernel)

theorem mb_278 : ∀ q ∈ mt_278, decode cX8_size q.1 = .ok (q.2.1, q.2.2.1) ∧ mlen q.2.1 q.2.2.1 = true := mBk_ok (by decide +kernel)

theorem mb_279 : ∀ q ∈ mt_279, decode cX8_size q.1 = .ok (q.2.1, q.2.2.1) ∧ mlen q.2.1 q.2.2.1 = true := mBk_ok (by decide +kernel)

theorem mb_280 : ∀ q ∈ mt_280, decode cX8_size q.1 = .ok (q.2.1, q.2.2.1) ∧ mlen q.2.1 q.2.2.1 = true := mBk_ok (by decide +kernel)

theorem mb_281 : ∀ q ∈ mt_281, decode cX8_size q.1 = .ok (q.2.1, q.2.2.1) ∧ mlen q.2.1 q.2.2.1 = true := mBk_ok (by decide +kernel)

theorem mb_282 : ∀ q ∈ mt_282, decode cX8_size q.1 = .ok (q.2.1, q.2.2.1) ∧ mlen q.2.1 q.2.2.1 = true := mBk_ok (by decide +kernel)

theorem mb_283 : ∀ q ∈ mt_283, decode cX8_size q.1 = .ok (q.2.1, q.2.2.1) ∧ mlen q.2.1 q.2.2.1 = true := mBk_ok (by decide +kernel)

theorem mb_284 : ∀ q ∈ mt_284, decode cX8_size q.1 = .ok (q.2.1, q.2.2.1) ∧ mlen q.2.1 q.2.2.1 = true := mBk_ok (by decide +kernel)

theorem mb_285 : ∀ q ∈ mt_285, decode cX8_size q.1 = .ok (q.2.1, q.2.2.1) ∧ mlen q.2.1 q.2.2.1 = true := mBk_ok (by decide +kernel)

theorem mb_286 : ∀ q ∈ mt_286, decode cX8_size q.1 = .ok (q.2.1, q.2.2.1) ∧ mlen q.2.1 q.2.2.1 = true := mBk_ok (by decide +kernel)

theorem mb_287 : ∀ q ∈ mt_287, decode cX8_size q.1 = .ok (q.2.1, q.2.2.1) ∧ mlen q.2.1 q.2.2.1 = true := mBk_ok (by decide +kernel)

theorem mb_288 : ∀ q ∈ mt_288, decode cX8_size q.1 = .ok (q.2.1, q.2.2.1) ∧ mlen q.2.1 q.2.2.1 = true := mBk_ok (by decide +kernel)

theorem mb_289 : ∀ q ∈ mt_289, decode cX8_size q.1 = .ok (q.2.1, q.2.2.1) ∧ mlen q.2.1 q.2.2.1 = true := mBk_ok (by decide +kernel)

theorem mb_290 : ∀ q ∈ mt_290, decode cX8_size q.1 = .ok (q.2.1, q.2.2.1) ∧ mlen q.2.1 q.2.2.1 = true := mBk_ok (by decide +kernel)

theorem mb_291 : ∀ q ∈ mt_291, decode cX8_size q.1 = .ok (q.2.1, q.2.2.1) ∧ mlen q.2.1 q.2.2.1 = true := mBk_ok (by decide +kernel)

theorem mb_292 : ∀ q ∈ mt_292, decode cX8_size q.1 = .ok (q.2.1, q.2.2.1) ∧ mlen q.2.1 q.2.2.1 = true := mBk_ok (by decide +kernel)

theorem mb_293 : ∀ q ∈ mt_293, decode cX8_size q.1 = .ok (q.2.1, q.2.2.1) ∧ mlen q.2.1 q.2.2.1 = true := mBk_ok (by decide +kernel)

theorem mb_294 : ∀ q ∈ mt_294, decode cX8_size q.1 = .ok (q.2.1, q.2.2.1) ∧ mlen q.2.1 q.2.2.1 = true := mBk_ok (by decide +kernel)

theorem mb_295 : ∀ q ∈ mt_295, decode cX8_size q.1 = .ok (q.2.1, q.2.2.1) ∧ mlen q.2.1 q.2.2.1 = true := mBk_ok (by decide +kernel)

theorem mb_296 : ∀ q ∈ mt_296, decode cX8_size q.1 = .ok (q.2.1, q.2.2.1) ∧ mlen q.2.1 q.2.2.1 = true := mBk_ok (by decide +kernel)

theorem mb_297 : ∀ q ∈ mt_297, decode cX8_size q.1 = .ok (q.2.1, q.2.2.1) ∧ mlen q.2.1 q.2.2.1 = true := mBk_ok (by decide +kernel)

theorem mb_298 : ∀ q ∈ mt_298, decode cX8_size q.1 = .ok (q.2.1, q.2.2.1) ∧ mlen q.2.1 q.2.2.1 = true := mBk_ok (by decide +kernel)

theorem mb_299 : ∀ q ∈ mt_299, decode cX8_size q.1 = .ok (q.2.1, q.2.2.1) ∧ mlen q.2.1 q.2.2.1 = true := mBk_ok (by decide +kernel)

theorem mb_300 : ∀ q ∈ mt_300, decode cX8_size q.1 = .ok (q.2.1, q.2.2.1) ∧ mlen q.2.1 q.2.2.1 = true := mBk_ok (by decide +kernel)

theorem mb_301 : ∀ q ∈ mt_301, decode cX8_size q.1 = .ok (q.2.1, q.2.2.1) ∧ mlen q.2.1 q.2.2.1 = true := mBk_ok (by decide +kernel)

theorem mb_302 : ∀ q ∈ mt_302, decode cX8_size q.1 = .ok (q.2.1, q.2.2.1) ∧ mlen q.2.1 q.2.2.1 = true := mBk_ok (by decide +kernel)

theorem mb_303 : ∀ q ∈ mt_303, decode cX8_size q.1 = .ok (q.2.1, q.2.2.1) ∧ mlen q.2.1 q.2.2.1 = true := mBk_ok (by decide +kernel)

theorem mb_304 : ∀ q ∈ mt_304, decode cX8_size q.1 = .ok (q.2.1, q.2.2.1) ∧ mlen q.2.1 q.2.2.1 = true := mBk_ok (by decide +kernel)

theorem mb_305 : ∀ q ∈ mt_305, decode cX8_size q.1 = .ok (q.2.1, q.2.2.1) ∧ mlen q.2.1 q.2.2.1 = true := mBk_ok (by decide +kernel)

theorem mb_306 : ∀ q ∈ mt_306, decode cX8_size q.1 = .ok (q.2.1, q.2.2.1) ∧ mlen q.2.1 q.2.2.1 = true := mBk_ok (by decide +kernel)

theorem mb_307 : ∀ q ∈ mt_307, decode cX8_size q.1 = .ok (q.2.1, q.2.2.1) ∧ mlen q.2.1 q.2.2.1 = true := mBk_ok (by decide +kernel)

theorem mb_308 : ∀ q ∈ mt_308, decode cX8_size q.1 = .ok (q.2.1, q.2.2.1) ∧ mlen q.2.1 q.2.2.1 = true := mBk_ok (by decide +kernel)

theorem mb_309 : ∀ q ∈ mt_309, decode cX8_size q.1 = .ok (q.2.1, q.2.2.1) ∧ mlen q.2.1 q.2.2.1 = true := mBk_ok (by decide +kernel)

theorem mb_310 : ∀ q ∈ mt_310, decode cX8_size q.1 = .ok (q.2.1, q.2.2.1) ∧ mlen q.2.1 q.2.2.1 = true := mBk_ok (by decide +kernel)

theorem mb_311 : ∀ q ∈ mt_311, decode cX8_size q.1 = .ok (q.2.1, q.2.2.1) ∧ mlen q.2.1 q.2.2.1 = true := mBk_ok (by decide +kernel)

theorem mb_312 : ∀ q ∈ mt_312, decode cX8_size q.1 = .ok (q.2.1, q.2.2.1) ∧ mlen q.2.1 q.2.2.1 = true := mBk_ok (by decide +kernel)

theorem mb_313 : ∀ q ∈ mt_313, decode cX8_size q.1 = .ok (q.2.1, q.2.2.1) ∧ mlen q.2.1 q.2.2.1 = true := mBk_ok (by decide +kernel)

theorem mb_314 : ∀ q ∈ mt_314, decode cX8_size q.1 = .ok (q.2.1, q.2.2.1) ∧ mlen q.2.1 q.2.2.1 = true := mBk_ok (by decide +kernel)

theorem mb_315 : ∀ q ∈ mt_315, decode cX8_size q.1 = .ok (q.2.1, q.2.2.1) ∧ mlen q.2.1 q.2.2.1 = true := mBk_ok (by decide +kernel)

theorem mb_316 : ∀ q ∈ mt_316, decode cX8_size q.1 = .ok (q.2.1, q.2.2.1) ∧ mlen q.2.1 q.2.2.1 = true := mBk_ok (by decide +kernel)

theorem mb_317 : ∀ q ∈ mt_317, decode cX8_size q.1 = .ok (q.2.1, q.2.2.1) ∧ mlen q.2.1 q.2.2.1 = true := mBk_ok (by decide +kernel)

theorem mb_318 : ∀ q ∈ mt_318, decode cX8_size q.1 = .ok (q.2.1, q.2.2.1) ∧ mlen q.2.1 q.2.2.1 = true := mBk_ok (by decide +kernel)

theorem mb_319 : ∀ q ∈ mt_319, decode cX8_size q.1 = .ok (q.2.1, q.2.2.1) ∧ mlen q.2.1 q.2.2.1 = true := mBk_ok (by decide +kernel)

theorem mb_320 : ∀ q ∈ mt_320, decode cX8_size q.1 = .ok (q.2.1, q.2.2.1) ∧ mlen q.2.1 q.2.2.1 = true := mBk_ok (by decide +kernel)

theorem mb_321 : ∀ q ∈ mt_321, decode cX8_size q.1 = .ok (q.2.1, q.2.2.1) ∧ mlen q.2.1 q.2.2.1 = true := mBk_ok (by decide +kernel)

theorem mb_322 : ∀ q ∈ mt_322, decode cX8_size q.1 = .ok (q.2.1, q.2.2.1) ∧ mlen q.2.1 q.2.2.1 = true := mBk_ok (by decide +kernel)

theorem mb_323 : ∀ q ∈ mt_323, decode cX8_size q.1 = .ok (q.2.1, q.2.2.1) ∧ mlen q.2.1 q.2.2.1 = true := mBk_ok (by decide +kernel)

theorem mb_324 : ∀ q ∈ mt_324, decode cX8_size q.1 = .ok (q.2.1, q.2.2.1) ∧ mlen q.2.1 q.2.2.1 = true := mBk_ok (by decide +kernel)

theorem mb_325 : ∀ q ∈ mt_325, decode cX8_size q.1 = .ok (q.2.1, q.2.2.1) ∧ mlen q.2.1 q.2.2.1 = true := mBk_ok (by decide +kernel)

theorem mb_326 : ∀ q ∈ mt_326, decode cX8_size q.1 = .ok (q.2.1, q.2.2.1) ∧ mlen q.2.1 q.2.2.1 = true := mBk_ok (by decide +kernel)

theorem mb_327 : ∀ q ∈ mt_327, decode cJ6_compare_7cf53 q.1 = .ok (q.2.1, q.2.2.1) ∧ mlen q.2.1 q.2.2.1 = true := mBk_ok (by decide +kernel)

theorem mb_328 : ∀ q ∈ mt_328, decode cJ6_bitCount_0f7a4 q.1 = .ok (q.2.1, q.2.2.1) ∧ mlen q.2.1 q.2.2.1 = true := mBk_ok (by decide +kernel)

theorem mb_329 : ∀ q ∈ mt_329, decode cJ9_max_7cf53 q.1 = .ok (q.2.1, q.2.2.1) ∧ mlen q.2.1 q.2.2.1 = true := mBk_ok (by decide +kernel)

theorem mb_330 : ∀ q ∈ mt_330, decode cJ9_min_7cf53 q.1 = .ok (q.2.1, q.2.2.1) ∧ mlen q.2.1 q.2.2.1 = true := mBk_ok (by decide +kernel)

theorem mb_331 : ∀ q ∈ mt_331, decode cL_asks q.1 = .ok (q.2.1, q.2.2.1) ∧ mlen q.2.1 q.2.2.1 = true := mBk_ok (by decide +kernel)

theorem mb_332 : ∀ q ∈ mt_332, decode cL_on q.1 = .ok (q.2.1, q.2.2.1) ∧ mlen q.2.1 q.2.2.1 = true := mBk_ok (by decide +kernel)

theorem mb_333 : ∀ q ∈ mt_333, decode cL_isText q.1 = .ok (q.2.1, q.2.2.1) ∧ mlen q.2.1 q.2.2.1 = true := mBk_ok (by decide +kernel)

theorem mbx_334_0_0 : ∀ q ∈ (mt_334_0.drop 0).take 40, decode cL_isCompared q.1 = .ok (q.2.1, q.2.2.1) ∧ mlen q.2.1 q.2.2.1 = true := mBk_ok (by decide +kernel)

theorem mbx_334_0_40 : ∀ q ∈ (mt_334_0.drop 40).take 40, decode cL_isCompared q.1 = .ok (q.2.1, q.2.2.1) ∧ mlen q.2.1 q.2.2.1 = true := mBk_ok (by decide +kernel)

theorem mbx_334_0_80 : ∀ q ∈ (mt_334_0.drop 80).take 40, decode cL_isCompared q.1 = .ok (q.2.1, q.2.2.1) ∧ mlen q.2.1 q.2.2.1 = true := mBk_ok (by decide +kernel)

theorem mb_334_0 : ∀ q ∈ mt_334_0, decode cL_isCompared q.1 = .ok (q.2.1, q.2.2.1) ∧ mlen q.2.1 q.2.2.1 = true := mJoin 40 3 (by decide +kernel) fun j hj => by
  rcases (show j = 0 ∨ j = 1 ∨ j = 2 by omega) with rfl | rfl | rfl
  · exact mbx_334_0_0
  · exact mbx_334_0_40
  · exact mbx_334_0_80

theorem mb_334_1 : ∀ q ∈ mt_334_1, decode cL_isCompared q.1 = .ok (q.2.1, q.2.2.1) ∧ mlen q.2.1 q.2.2.1 = true := mBk_ok (by decide +kernel)

theorem mb_334 : ∀ q ∈ mt_334, decode cL_isCompared q.1 = .ok (q.2.1, q.2.2.1) ∧ mlen q.2.1 q.2.2.1 = true := mAllApp mb_334_0 (mb_334_1)

theorem mb_335 : ∀ q ∈ mt_335, decode cL_isList q.1 = .ok (q.2.1, q.2.2.1) ∧ mlen q.2.1 q.2.2.1 = true := mBk_ok (by decide +kernel)

theorem mbx_336_0_0 : ∀ q ∈ (mt_336_0.drop 0).take 40, decode cL_isIndex q.1 = .ok (q.2.1, q.2.2.1) ∧ mlen q.2.1 q.2.2.1 = true := mBk_ok (by decide +kernel)

theorem mbx_336_0_40 : ∀ q ∈ (mt_336_0.drop 40).take 40, decode cL_isIndex q.1 = .ok (q.2.1, q.2.2.1) ∧ mlen q.2.1 q.2.2.1 = true := mBk_ok (by decide +kernel)

theorem mbx_336_0_80 : ∀ q ∈ (mt_336_0.drop 80).take 40, decode cL_isIndex q.1 = .ok (q.2.1, q.2.2.1) ∧ mlen q.2.1 q.2.2.1 = true := mBk_ok (by decide +kernel)

theorem mb_336_0 : ∀ q ∈ mt_336_0, decode cL_isIndex q.1 = .ok (q.2.1, q.2.2.1) ∧ mlen q.2.1 q.2.2.1 = true := mJoin 40 3 (by decide +kernel) fun j hj => by
  rcases (show j = 0 ∨ j = 1 ∨ j = 2 by omega) with rfl | rfl | rfl
  · exact mbx_336_0_0
  · exact mbx_336_0_40
  · exact mbx_336_0_80

theorem mb_336_1 : ∀ q ∈ mt_336_1, decode cL_isIndex q.1 = .ok (q.2.1, q.2.2.1) ∧ mlen q.2.1 q.2.2.1 = true := mBk_ok (by decide +kernel)

theorem mb_336 : ∀ q ∈ mt_336, decode cL_isIndex q.1 = .ok (q.2.1, q.2.2.1) ∧ mlen q.2.1 q.2.2.1 = true := mAllApp mb_336_0 (mb_336_1)

theorem mb_337 : ∀ q ∈ mt_337, decode cL_isLocated q.1 = .ok (q.2.1, q.2.2.1) ∧ mlen q.2.1 q.2.2.1 = true := mBk_ok (by decide +kernel)

theorem mb_338 : ∀ q ∈ mt_338, decode cX8_size q.1 = .ok (q.2.1, q.2.2.1) ∧ mlen q.2.1 q.2.2.1 = true := mBk_ok (by decide +kernel)

theorem mb_339 : ∀ q ∈ mt_339, decode cX8_size q.1 = .ok (q.2.1, q.2.2.1) ∧ mlen q.2.1 q.2.2.1 = true := mBk_ok (by decide +kernel)

theorem mb_340 : ∀ q ∈ mt_340, decode cX8_size q.1 = .ok (q.2.1, q.2.2.1) ∧ mlen q.2.1 q.2.2.1 = true := mBk_ok (by decide +kernel)

theorem mb_341 : ∀ q ∈ mt_341, decode cX8_size q.1 = .ok (q.2.1, q.2.2.1) ∧ mlen q.2.1 q.2.2.1 = true := mBk_ok (by decide +kernel)

theorem mb_342 : ∀ q ∈ mt_342, decode cX8_size q.1 = .ok (q.2.1, q.2.2.1) ∧ mlen q.2.1 q.2.2.1 = true := mBk_ok (by decide +kernel)

theorem mb_343 : ∀ q ∈ mt_343, decode cX8_size q.1 = .ok (q.2.1, q.2.2.1) ∧ mlen q.2.1 q.2.2.1 = true := mBk_ok (by decide +kernel)

theorem mb_344 : ∀ q ∈ mt_344, decode cX8_size q.1 = .ok (q.2.1, q.2.2.1) ∧ mlen q.2.1 q.2.2.1 = true := mBk_ok (by decide +kernel)

theorem mb_345 : ∀ q ∈ mt_345, decode cX8_size q.1 = .ok (q.2.1, q.2.2.1) ∧ mlen q.2.1 q.2.2.1 = true := mBk_ok (by decide +kernel)

theorem mb_346 : ∀ q ∈ mt_346, decode cX8_size q.1 = .ok (q.2.1, q.2.2.1) ∧ mlen q.2.1 q.2.2.1 = true := mBk_ok (by decide +kernel)

theorem mb_347 : ∀ q ∈ mt_347, decode cX8_size q.1 = .ok (q.2.1, q.2.2.1) ∧ mlen q.2.1 q.2.2.1 = true := mBk_ok (by decide +kernel)

theorem mb_348 : ∀ q ∈ mt_348, decode cX8_size q.1 = .ok (q.2.1, q.2.2.1) ∧ mlen q.2.1 q.2.2.1 = true := mBk_ok (by decide +kernel)

theorem mb_349 : ∀ q ∈ mt_349, decode cX8_size q.1 = .ok (q.2.1, q.2.2.1) ∧ mlen q.2.1 q.2.2.1 = true := mBk_ok (by decide +kernel)

theorem mb_350 : ∀ q ∈ mt_350, decode cX8_size q.1 = .ok (q.2.1, q.2.2.1) ∧ mlen q.2.1 q.2.2.1 = true := mBk_ok (by decide +kernel)

theorem mb_351 : ∀ q ∈ mt_351, decode cX8_size q.1 = .ok (q.2.1, q.2.2.1) ∧ mlen q.2.1 q.2.2.1 = true := mBk_ok (by decide +kernel)

theorem mb_352 : ∀ q ∈ mt_352, decode cX8_size q.1 = .ok (q.2.1, q.2.2.1) ∧ mlen q.2.1 q.2.2.1 = true := mBk_ok (by decide +kernel)

theorem mb_353 : ∀ q ∈ mt_353, decode cX8_size q.1 = .ok (q.2.1, q.2.2.1) ∧ mlen q.2.1 q.2.2.1 = true := mBk_ok (by decide +kernel)

theorem mb_354 : ∀ q ∈ mt_354, decode cX8_size q.1 = .ok (q.2.1, q.2.2.1) ∧ mlen q.2.1 q.2.2.1 = true := mBk_ok (by decide +kernel)

theorem mb_355 : ∀ q ∈ mt_355, decode cX8_size q.1 = .ok (q.2.1, q.2.2.1) ∧ mlen q.2.1 q.2.2.1 = true := mBk_ok (by decide +kernel)

theorem mb_356 : ∀ q ∈ mt_356, decode cX8_size q.1 = .ok (q.2.1, q.2.2.1) ∧ mlen q.2.1 q.2.2.1 = true := mBk_ok (by decide +kernel)

theorem mb_357 : ∀ q ∈ mt_357, decode cX8_size q.1 = .ok (q.2.1, q.2.2.1) ∧ mlen q.2.1 q.2.2.1 = true := mBk_ok (by decide +kernel)

theorem mb_358 : ∀ q ∈ mt_358, decode cX8_size q.1 = .ok (q.2.1, q.2.2.1) ∧ mlen q.2.1 q.2.2.1 = true := mBk_ok (by decide +kernel)

theorem mb_359 : ∀ q ∈ mt_359, decode cX8_size q.1 = .ok (q.2.1, q.2.2.1) ∧ mlen q.2.1 q.2.2.1 = true := mBk_ok (by decide +kernel)

theorem mb_360 : ∀ q ∈ mt_360, decode cX8_size q.1 = .ok (q.2.1, q.2.2.1) ∧ mlen q.2.1 q.2.2.1 = true := mBk_ok (by decide +kernel)

theorem mb_361 : ∀ q ∈ mt_361, decode cX8_size q.1 = .ok (q.2.1, q.2.2.1) ∧ mlen q.2.1 q.2.2.1 = true := mBk_ok (by decide +kernel)

theorem mb_362 : ∀ q ∈ mt_362, decode cX8_size q.1 = .ok (q.2.1, q.2.2.1) ∧ mlen q.2.1 q.2.2.1 = true := mBk_ok (by decide +kernel)

theorem mb_363 : ∀ q ∈ mt_363, decode cX8_size q.1 = .ok (q.2.1, q.2.2.1) ∧ mlen q.2.1 q.2.2.1 = true := mBk_ok (by decide +kernel)
