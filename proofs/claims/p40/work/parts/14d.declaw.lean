/-! The same of the law: by few entries at a time. -/

theorem mbx_364_0_0 : ∀ q ∈ (mt_364_0.drop 0).take 12, decode cL_law q.1 = .ok (q.2.1, q.2.2.1) ∧ mlen q.2.1 q.2.2.1 = true := mBk_ok (by decide +kernel)

theorem mbx_364_0_12 : ∀ q ∈ (mt_364_0.drop 12).take 12, decode cL_law q.1 = .ok (q.2.1, q.2.2.1) ∧ mlen q.2.1 q.2.2.1 = true := mBk_ok (by decide +kernel)

theorem mbx_364_0_24 : ∀ q ∈ (mt_364_0.drop 24).take 12, decode cL_law q.1 = .ok (q.2.1, q.2.2.1) ∧ mlen q.2.1 q.2.2.1 = true := mBk_ok (by decide +kernel)

theorem mbx_364_0_36 : ∀ q ∈ (mt_364_0.drop 36).take 12, decode cL_law q.1 = .ok (q.2.1, q.2.2.1) ∧ mlen q.2.1 q.2.2.1 = true := mBk_ok (by decide +kernel)

theorem mbx_364_0_48 : ∀ q ∈ (mt_364_0.drop 48).take 12, decode cL_law q.1 = .ok (q.2.1, q.2.2.1) ∧ mlen q.2.1 q.2.2.1 = true := mBk_ok (by decide +kernel)

theorem mbx_364_0_60 : ∀ q ∈ (mt_364_0.drop 60).take 12, decode cL_law q.1 = .ok (q.2.1, q.2.2.1) ∧ mlen q.2.1 q.2.2.1 = true := mBk_ok (by decide +kernel)

theorem mbx_364_0_72 : ∀ q ∈ (mt_364_0.drop 72).take 12, decode cL_law q.1 = .ok (q.2.1, q.2.2.1) ∧ mlen q.2.1 q.2.2.1 = true := mBk_ok (by decide +kernel)

theorem mbx_364_0_84 : ∀ q ∈ (mt_364_0.drop 84).take 12, decode cL_law q.1 = .ok (q.2.1, q.2.2.1) ∧ mlen q.2.1 q.2.2.1 = true := mBk_ok (by decide +kernel)

theorem mbx_364_0_96 : ∀ q ∈ (mt_364_0.drop 96).take 12, decode cL_law q.1 = .ok (q.2.1, q.2.2.1) ∧ mlen q.2.1 q.2.2.1 = true := mBk_ok (by decide +kernel)

theorem mbx_364_0_108 : ∀ q ∈ (mt_364_0.drop 108).take 12, decode cL_law q.1 = .ok (q.2.1, q.2.2.1) ∧ mlen q.2.1 q.2.2.1 = true := mBk_ok (by decide +kernel)

theorem mb_364_0 : ∀ q ∈ mt_364_0, decode cL_law q.1 = .ok (q.2.1, q.2.2.1) ∧ mlen q.2.1 q.2.2.1 = true := mJoin 12 10 (by decide +kernel) fun j hj => by
  rcases (show j = 0 ∨ j = 1 ∨ j = 2 ∨ j = 3 ∨ j = 4 ∨ j = 5 ∨ j = 6 ∨ j = 7 ∨ j = 8 ∨ j = 9 by omega) with rfl | rfl | rfl | rfl | rfl | rfl | rfl | rfl | rfl | rfl
  · exact mbx_364_0_0
  · exact mbx_364_0_12
  · exact mbx_364_0_24
  · exact mbx_364_0_36
  · exact mbx_364_0_48
  · exact mbx_364_0_60
  · exact mbx_364_0_72
  · exact mbx_364_0_84
  · exact mbx_364_0_96
  · exact mbx_364_0_108

theorem mbx_364_1_0 : ∀ q ∈ (mt_364_1.drop 0).take 12, decode cL_law q.1 = .ok (q.2.1, q.2.2.1) ∧ mlen q.2.1 q.2.2.1 = true := mBk_ok (by decide +kernel)

theorem mbx_364_1_12 : ∀ q ∈ (mt_364_1.drop 12).take 12, decode cL_law q.1 = .ok (q.2.1, q.2.2.1) ∧ mlen q.2.1 q.2.2.1 = true := mBk_ok (by decide +kernel)

theorem mbx_364_1_24 : ∀ q ∈ (mt_364_1.drop 24).take 12, decode cL_law q.1 = .ok (q.2.1, q.2.2.1) ∧ mlen q.2.1 q.2.2.1 = true := mBk_ok (by decide +kernel)

theorem mbx_364_1_36 : ∀ q ∈ (mt_364_1.drop 36).take 12, decode cL_law q.1 = .ok (q.2.1, q.2.2.1) ∧ mlen q.2.1 q.2.2.1 = true := mBk_ok (by decide +kernel)

theorem mbx_364_1_48 : ∀ q ∈ (mt_364_1.drop 48).take 12, decode cL_law q.1 = .ok (q.2.1, q.2.2.1) ∧ mlen q.2.1 q.2.2.1 = true := mBk_ok (by decide +kernel)

theorem mbx_364_1_60 : ∀ q ∈ (mt_364_1.drop 60).take 12, decode cL_law q.1 = .ok (q.2.1, q.2.2.1) ∧ mlen q.2.1 q.2.2.1 = true := mBk_ok (by decide +kernel)

theorem mbx_364_1_72 : ∀ q ∈ (mt_364_1.drop 72).take 12, decode cL_law q.1 = .ok (q.2.1, q.2.2.1) ∧ mlen q.2.1 q.2.2.1 = true := mBk_ok (by decide +kernel)

theorem mbx_364_1_84 : ∀ q ∈ (mt_364_1.drop 84).take 12, decode cL_law q.1 = .ok (q.2.1, q.2.2.1) ∧ mlen q.2.1 q.2.2.1 = true := mBk_ok (by decide +kernel)

theorem mbx_364_1_96 : ∀ q ∈ (mt_364_1.drop 96).take 12, decode cL_law q.1 = .ok (q.2.1, q.2.2.1) ∧ mlen q.2.1 q.2.2.1 = true := mBk_ok (by decide +kernel)

theorem mbx_364_1_108 : ∀ q ∈ (mt_364_1.drop 108).take 12, decode cL_law q.1 = .ok (q.2.1, q.2.2.1) ∧ mlen q.2.1 q.2.2.1 = true := mBk_ok (by decide +kernel)

theorem mb_364_1 : ∀ q ∈ mt_364_1, decode cL_law q.1 = .ok (q.2.1, q.2.2.1) ∧ mlen q.2.1 q.2.2.1 = true := mJoin 12 10 (by decide +kernel) fun j hj => by
  rcases (show j = 0 ∨ j = 1 ∨ j = 2 ∨ j = 3 ∨ j = 4 ∨ j = 5 ∨ j = 6 ∨ j = 7 ∨ j = 8 ∨ j = 9 by omega) with rfl | rfl | rfl | rfl | rfl | rfl | rfl | rfl | rfl | rfl
  · exact mbx_364_1_0
  · exact mbx_364_1_12
  · exact mbx_364_1_24
  · exact mbx_364_1_36
  · exact mbx_364_1_48
  · exact mbx_364_1_60
  · exact mbx_364_1_72
  · exact mbx_364_1_84
  · exact mbx_364_1_96
  · exact mbx_364_1_108

theorem mbx_364_2_0 : ∀ q ∈ (mt_364_2.drop 0).take 12, decode cL_law q.1 = .ok (q.2.1, q.2.2.1) ∧ mlen q.2.1 q.2.2.1 = true := mBk_ok (by decide +kernel)

theorem mbx_364_2_12 : ∀ q ∈ (mt_364_2.drop 12).take 12, decode cL_law q.1 = .ok (q.2.1, q.2.2.1) ∧ mlen q.2.1 q.2.2.1 = true := mBk_ok (by decide +kernel)

theorem mbx_364_2_24 : ∀ q ∈ (mt_364_2.drop 24).take 12, decode cL_law q.1 = .ok (q.2.1, q.2.2.1) ∧ mlen q.2.1 q.2.2.1 = true := mBk_ok (by decide +kernel)

theorem mbx_364_2_36 : ∀ q ∈ (mt_364_2.drop 36).take 12, decode cL_law q.1 = .ok (q.2.1, q.2.2.1) ∧ mlen q.2.1 q.2.2.1 = true := mBk_ok (by decide +kernel)

theorem mbx_364_2_48 : ∀ q ∈ (mt_364_2.drop 48).take 12, decode cL_law q.1 = .ok (q.2.1, q.2.2.1) ∧ mlen q.2.1 q.2.2.1 = true := mBk_ok (by decide +kernel)

theorem mbx_364_2_60 : ∀ q ∈ (mt_364_2.drop 60).take 12, decode cL_law q.1 = .ok (q.2.1, q.2.2.1) ∧ mlen q.2.1 q.2.2.1 = true := mBk_ok (by decide +kernel)

theorem mbx_364_2_72 : ∀ q ∈ (mt_364_2.drop 72).take 12, decode cL_law q.1 = .ok (q.2.1, q.2.2.1) ∧ mlen q.2.1 q.2.2.1 = true := mBk_ok (by decide +kernel)

theorem mbx_364_2_84 : ∀ q ∈ (mt_364_2.drop 84).take 12, decode cL_law q.1 = .ok (q.2.1, q.2.2.1) ∧ mlen q.2.1 q.2.2.1 = true := mBk_ok (by decide +kernel)

theorem mbx_364_2_96 : ∀ q ∈ (mt_364_2.drop 96).take 12, decode cL_law q.1 = .ok (q.2.1, q.2.2.1) ∧ mlen q.2.1 q.2.2.1 = true := mBk_ok (by decide +kernel)

theorem mbx_364_2_108 : ∀ q ∈ (mt_364_2.drop 108).take 12, decode cL_law q.1 = .ok (q.2.1, q.2.2.1) ∧ mlen q.2.1 q.2.2.1 = true := mBk_ok (by decide +kernel)

theorem mb_364_2 : ∀ q ∈ mt_364_2, decode cL_law q.1 = .ok (q.2.1, q.2.2.1) ∧ mlen q.2.1 q.2.2.1 = true := mJoin 12 10 (by decide +kernel) fun j hj => by
  rcases (show j = 0 ∨ j = 1 ∨ j = 2 ∨ j = 3 ∨ j = 4 ∨ j = 5 ∨ j = 6 ∨ j = 7 ∨ j = 8 ∨ j = 9 by omega) with rfl | rfl | rfl | rfl | rfl | rfl | rfl | rfl | rfl | rfl
  · exact mbx_364_2_0
  · exact mbx_364_2_12
  · exact mbx_364_2_24
  · exact mbx_364_2_36
  · exact mbx_364_2_48
  · exact mbx_364_2_60
  · exact mbx_364_2_72
  · exact mbx_364_2_84
  · exact mbx_364_2_96
  · exact mbx_364_2_108

theorem mbx_364_3_0 : ∀ q ∈ (mt_364_3.drop 0).take 12, decode cL_law q.1 = .ok (q.2.1, q.2.2.1) ∧ mlen q.2.1 q.2.2.1 = true := mBk_ok (by decide +kernel)

theorem mbx_364_3_12 : ∀ q ∈ (mt_364_3.drop 12).take 12, decode cL_law q.1 = .ok (q.2.1, q.2.2.1) ∧ mlen q.2.1 q.2.2.1 = true := mBk_ok (by decide +kernel)

theorem mbx_364_3_24 : ∀ q ∈ (mt_364_3.drop 24).take 12, decode cL_law q.1 = .ok (q.2.1, q.2.2.1) ∧ mlen q.2.1 q.2.2.1 = true := mBk_ok (by decide +kernel)

theorem mbx_364_3_36 : ∀ q ∈ (mt_364_3.drop 36).take 12, decode cL_law q.1 = .ok (q.2.1, q.2.2.1) ∧ mlen q.2.1 q.2.2.1 = true := mBk_ok (by decide +kernel)

theorem mbx_364_3_48 : ∀ q ∈ (mt_364_3.drop 48).take 12, decode cL_law q.1 = .ok (q.2.1, q.2.2.1) ∧ mlen q.2.1 q.2.2.1 = true := mBk_ok (by decide +kernel)

theorem mbx_364_3_60 : ∀ q ∈ (mt_364_3.drop 60).take 12, decode cL_law q.1 = .ok (q.2.1, q.2.2.1) ∧ mlen q.2.1 q.2.2.1 = true := mBk_ok (by decide +kernel)

theorem mbx_364_3_72 : ∀ q ∈ (mt_364_3.drop 72).take 12, decode cL_law q.1 = .ok (q.2.1, q.2.2.1) ∧ mlen q.2.1 q.2.2.1 = true := mBk_ok (by decide +kernel)

theorem mbx_364_3_84 : ∀ q ∈ (mt_364_3.drop 84).take 12, decode cL_law q.1 = .ok (q.2.1, q.2.2.1) ∧ mlen q.2.1 q.2.2.1 = true := mBk_ok (by decide +kernel)

theorem mbx_364_3_96 : ∀ q ∈ (mt_364_3.drop 96).take 12, decode cL_law q.1 = .ok (q.2.1, q.2.2.1) ∧ mlen q.2.1 q.2.2.1 = true := mBk_ok (by decide +kernel)

theorem mbx_364_3_108 : ∀ q ∈ (mt_364_3.drop 108).take 12, decode cL_law q.1 = .ok (q.2.1, q.2.2.1) ∧ mlen q.2.1 q.2.2.1 = true := mBk_ok (by decide +kernel)

theorem mb_364_3 : ∀ q ∈ mt_364_3, decode cL_law q.1 = .ok (q.2.1, q.2.2.1) ∧ mlen q.2.1 q.2.2.1 = true := mJoin 12 10 (by decide +kernel) fun j hj => by
  rcases (show j = 0 ∨ j = 1 ∨ j = 2 ∨ j = 3 ∨ j = 4 ∨ j = 5 ∨ j = 6 ∨ j = 7 ∨ j = 8 ∨ j = 9 by omega) with rfl | rfl | rfl | rfl | rfl | rfl | rfl | rfl | rfl | rfl
  · exact mbx_364_3_0
  · exact mbx_364_3_12
  · exact mbx_364_3_24
  · exact mbx_364_3_36
  · exact mbx_364_3_48
  · exact mbx_364_3_60
  · exact mbx_364_3_72
  · exact mbx_364_3_84
  · exact mbx_364_3_96
  · exact mbx_364_3_108

theorem mbx_364_4_0 : ∀ q ∈ (mt_364_4.drop 0).take 12, decode cL_law q.1 = .ok (q.2.1, q.2.2.1) ∧ mlen q.2.1 q.2.2.1 = true := mBk_ok (by decide +kernel)

theorem mbx_364_4_12 : ∀ q ∈ (mt_364_4.drop 12).take 12, decode cL_law q.1 = .ok (q.2.1, q.2.2.1) ∧ mlen q.2.1 q.2.2.1 = true := mBk_ok (by decide +kernel)

theorem mbx_364_4_24 : ∀ q ∈ (mt_364_4.drop 24).take 12, decode cL_law q.1 = .ok (q.2.1, q.2.2.1) ∧ mlen q.2.1 q.2.2.1 = true := mBk_ok (by decide +kernel)

theorem mbx_364_4_36 : ∀ q ∈ (mt_364_4.drop 36).take 12, decode cL_law q.1 = .ok (q.2.1, q.2.2.1) ∧ mlen q.2.1 q.2.2.1 = true := mBk_ok (by decide +kernel)

theorem mbx_364_4_48 : ∀ q ∈ (mt_364_4.drop 48).take 12, decode cL_law q.1 = .ok (q.2.1, q.2.2.1) ∧ mlen q.2.1 q.2.2.1 = true := mBk_ok (by decide +kernel)

theorem mbx_364_4_60 : ∀ q ∈ (mt_364_4.drop 60).take 12, decode cL_law q.1 = .ok (q.2.1, q.2.2.1) ∧ mlen q.2.1 q.2.2.1 = true := mBk_ok (by decide +kernel)

theorem mbx_364_4_72 : ∀ q ∈ (mt_364_4.drop 72).take 12, decode cL_law q.1 = .ok (q.2.1, q.2.2.1) ∧ mlen q.2.1 q.2.2.1 = true := mBk_ok (by decide +kernel)

theorem mbx_364_4_84 : ∀ q ∈ (mt_364_4.drop 84).take 12, decode cL_law q.1 = .ok (q.2.1, q.2.2.1) ∧ mlen q.2.1 q.2.2.1 = true := mBk_ok (by decide +kernel)

theorem mbx_364_4_96 : ∀ q ∈ (mt_364_4.drop 96).take 12, decode cL_law q.1 = .ok (q.2.1, q.2.2.1) ∧ mlen q.2.1 q.2.2.1 = true := mBk_ok (by decide +kernel)

theorem mbx_364_4_108 : ∀ q ∈ (mt_364_4.drop 108).take 12, decode cL_law q.1 = .ok (q.2.1, q.2.2.1) ∧ mlen q.2.1 q.2.2.1 = true := mBk_ok (by decide +kernel)

theorem mb_364_4 : ∀ q ∈ mt_364_4, decode cL_law q.1 = .ok (q.2.1, q.2.2.1) ∧ mlen q.2.1 q.2.2.1 = true := mJoin 12 10 (by decide +kernel) fun j hj => by
  rcases (show j = 0 ∨ j = 1 ∨ j = 2 ∨ j = 3 ∨ j = 4 ∨ j = 5 ∨ j = 6 ∨ j = 7 ∨ j = 8 ∨ j = 9 by omega) with rfl | rfl | rfl | rfl | rfl | rfl | rfl | rfl | rfl | rfl
  · exact mbx_364_4_0
  · exact mbx_364_4_12
  · exact mbx_364_4_24
  · exact mbx_364_4_36
  · exact mbx_364_4_48
  · exact mbx_364_4_60
  · exact mbx_364_4_72
  · exact mbx_364_4_84
  · exact mbx_364_4_96
  · exact mbx_364_4_108

theorem mbx_364_5_0 : ∀ q ∈ (mt_364_5.drop 0).take 12, decode cL_law q.1 = .ok (q.2.1, q.2.2.1) ∧ mlen q.2.1 q.2.2.1 = true := mBk_ok (by decide +kernel)

theorem mbx_364_5_12 : ∀ q ∈ (mt_364_5.drop 12).take 12, decode cL_law q.1 = .ok (q.2.1, q.2.2.1) ∧ mlen q.2.1 q.2.2.1 = true := mBk_ok (by decide +kernel)

theorem mbx_364_5_24 : ∀ q ∈ (mt_364_5.drop 24).take 12, decode cL_law q.1 = .ok (q.2.1, q.2.2.1) ∧ mlen q.2.1 q.2.2.1 = true := mBk_ok (by decide +kernel)

theorem mbx_364_5_36 : ∀ q ∈ (mt_364_5.drop 36).take 12, decode cL_law q.1 = .ok (q.2.1, q.2.2.1) ∧ mlen q.2.1 q.2.2.1 = true := mBk_ok (by decide +kernel)

theorem mbx_364_5_48 : ∀ q ∈ (mt_364_5.drop 48).take 12, decode cL_law q.1 = .ok (q.2.1, q.2.2.1) ∧ mlen q.2.1 q.2.2.1 = true := mBk_ok (by decide +kernel)

theorem mbx_364_5_60 : ∀ q ∈ (mt_364_5.drop 60).take 12, decode cL_law q.1 = .ok (q.2.1, q.2.2.1) ∧ mlen q.2.1 q.2.2.1 = true := mBk_ok (by decide +kernel)

theorem mbx_364_5_72 : ∀ q ∈ (mt_364_5.drop 72).take 12, decode cL_law q.1 = .ok (q.2.1, q.2.2.1) ∧ mlen q.2.1 q.2.2.1 = true := mBk_ok (by decide +kernel)

theorem mbx_364_5_84 : ∀ q ∈ (mt_364_5.drop 84).take 12, decode cL_law q.1 = .ok (q.2.1, q.2.2.1) ∧ mlen q.2.1 q.2.2.1 = true := mBk_ok (by decide +kernel)

theorem mbx_364_5_96 : ∀ q ∈ (mt_364_5.drop 96).take 12, decode cL_law q.1 = .ok (q.2.1, q.2.2.1) ∧ mlen q.2.1 q.2.2.1 = true := mBk_ok (by decide +kernel)

theorem mbx_364_5_108 : ∀ q ∈ (mt_364_5.drop 108).take 12, decode cL_law q.1 = .ok (q.2.1, q.2.2.1) ∧ mlen q.2.1 q.2.2.1 = true := mBk_ok (by decide +kernel)

theorem mb_364_5 : ∀ q ∈ mt_364_5, decode cL_law q.1 = .ok (q.2.1, q.2.2.1) ∧ mlen q.2.1 q.2.2.1 = true := mJoin 12 10 (by decide +kernel) fun j hj => by
  rcases (show j = 0 ∨ j = 1 ∨ j = 2 ∨ j = 3 ∨ j = 4 ∨ j = 5 ∨ j = 6 ∨ j = 7 ∨ j = 8 ∨ j = 9 by omega) with rfl | rfl | rfl | rfl | rfl | rfl | rfl | rfl | rfl | rfl
  · exact mbx_364_5_0
  · exact mbx_364_5_12
  · exact mbx_364_5_24
  · exact mbx_364_5_36
  · exact mbx_364_5_48
  · exact mbx_364_5_60
  · exact mbx_364_5_72
  · exact mbx_364_5_84
  · exact mbx_364_5_96
  · exact mbx_364_5_108

theorem mbx_364_6_0 : ∀ q ∈ (mt_364_6.drop 0).take 12, decode cL_law q.1 = .ok (q.2.1, q.2.2.1) ∧ mlen q.2.1 q.2.2.1 = true := mBk_ok (by decide +kernel)

theorem mbx_364_6_12 : ∀ q ∈ (mt_364_6.drop 12).take 12, decode cL_law q.1 = .ok (q.2.1, q.2.2.1) ∧ mlen q.2.1 q.2.2.1 = true := mBk_ok (by decide +kernel)

theorem mbx_364_6_24 : ∀ q ∈ (mt_364_6.drop 24).take 12, decode cL_law q.1 = .ok (q.2.1, q.2.2.1) ∧ mlen q.2.1 q.2.2.1 = true := mBk_ok (by decide +kernel)

theorem mbx_364_6_36 : ∀ q ∈ (mt_364_6.drop 36).take 12, decode cL_law q.1 = .ok (q.2.1, q.2.2.1) ∧ mlen q.2.1 q.2.2.1 = true := mBk_ok (by decide +kernel)

theorem mbx_364_6_48 : ∀ q ∈ (mt_364_6.drop 48).take 12, decode cL_law q.1 = .ok (q.2.1, q.2.2.1) ∧ mlen q.2.1 q.2.2.1 = true := mBk_ok (by decide +kernel)

theorem mbx_364_6_60 : ∀ q ∈ (mt_364_6.drop 60).take 12, decode cL_law q.1 = .ok (q.2.1, q.2.2.1) ∧ mlen q.2.1 q.2.2.1 = true := mBk_ok (by decide +kernel)

theorem mbx_364_6_72 : ∀ q ∈ (mt_364_6.drop 72).take 12, decode cL_law q.1 = .ok (q.2.1, q.2.2.1) ∧ mlen q.2.1 q.2.2.1 = true := mBk_ok (by decide +kernel)

theorem mbx_364_6_84 : ∀ q ∈ (mt_364_6.drop 84).take 12, decode cL_law q.1 = .ok (q.2.1, q.2.2.1) ∧ mlen q.2.1 q.2.2.1 = true := mBk_ok (by decide +kernel)

theorem mbx_364_6_96 : ∀ q ∈ (mt_364_6.drop 96).take 12, decode cL_law q.1 = .ok (q.2.1, q.2.2.1) ∧ mlen q.2.1 q.2.2.1 = true := mBk_ok (by decide +kernel)

theorem mbx_364_6_108 : ∀ q ∈ (mt_364_6.drop 108).take 12, decode cL_law q.1 = .ok (q.2.1, q.2.2.1) ∧ mlen q.2.1 q.2.2.1 = true := mBk_ok (by decide +kernel)

theorem mb_364_6 : ∀ q ∈ mt_364_6, decode cL_law q.1 = .ok (q.2.1, q.2.2.1) ∧ mlen q.2.1 q.2.2.1 = true := mJoin 12 10 (by decide +kernel) fun j hj => by
  rcases (show j = 0 ∨ j = 1 ∨ j = 2 ∨ j = 3 ∨ j = 4 ∨ j = 5 ∨ j = 6 ∨ j = 7 ∨ j = 8 ∨ j = 9 by omega) with rfl | rfl | rfl | rfl | rfl | rfl | rfl | rfl | rfl | rfl
  · exact mbx_364_6_0
  · exact mbx_364_6_12
  · exact mbx_364_6_24
  · exact mbx_364_6_36
  · exact mbx_364_6_48
  · exact mbx_364_6_60
  · exact mbx_364_6_72
  · exact mbx_364_6_84
  · exact mbx_364_6_96
  · exact mbx_364_6_108

theorem mbx_364_7_0 : ∀ q ∈ (mt_364_7.drop 0).take 12, decode cL_law q.1 = .ok (q.2.1, q.2.2.1) ∧ mlen q.2.1 q.2.2.1 = true := mBk_ok (by decide +kernel)

theorem mbx_364_7_12 : ∀ q ∈ (mt_364_7.drop 12).take 12, decode cL_law q.1 = .ok (q.2.1, q.2.2.1) ∧ mlen q.2.1 q.2.2.1 = true := mBk_ok (by decide +kernel)

theorem mbx_364_7_24 : ∀ q ∈ (mt_364_7.drop 24).take 12, decode cL_law q.1 = .ok (q.2.1, q.2.2.1) ∧ mlen q.2.1 q.2.2.1 = true := mBk_ok (by decide +kernel)

theorem mbx_364_7_36 : ∀ q ∈ (mt_364_7.drop 36).take 12, decode cL_law q.1 = .ok (q.2.1, q.2.2.1) ∧ mlen q.2.1 q.2.2.1 = true := mBk_ok (by decide +kernel)

theorem mbx_364_7_48 : ∀ q ∈ (mt_364_7.drop 48).take 12, decode cL_law q.1 = .ok (q.2.1, q.2.2.1) ∧ mlen q.2.1 q.2.2.1 = true := mBk_ok (by decide +kernel)

theorem mbx_364_7_60 : ∀ q ∈ (mt_364_7.drop 60).take 12, decode cL_law q.1 = .ok (q.2.1, q.2.2.1) ∧ mlen q.2.1 q.2.2.1 = true := mBk_ok (by decide +kernel)

theorem mbx_364_7_72 : ∀ q ∈ (mt_364_7.drop 72).take 12, decode cL_law q.1 = .ok (q.2.1, q.2.2.1) ∧ mlen q.2.1 q.2.2.1 = true := mBk_ok (by decide +kernel)

theorem mbx_364_7_84 : ∀ q ∈ (mt_364_7.drop 84).take 12, decode cL_law q.1 = .ok (q.2.1, q.2.2.1) ∧ mlen q.2.1 q.2.2.1 = true := mBk_ok (by decide +kernel)

theorem mbx_364_7_96 : ∀ q ∈ (mt_364_7.drop 96).take 12, decode cL_law q.1 = .ok (q.2.1, q.2.2.1) ∧ mlen q.2.1 q.2.2.1 = true := mBk_ok (by decide +kernel)

theorem mbx_364_7_108 : ∀ q ∈ (mt_364_7.drop 108).take 12, decode cL_law q.1 = .ok (q.2.1, q.2.2.1) ∧ mlen q.2.1 q.2.2.1 = true := mBk_ok (by decide +kernel)

theorem mb_364_7 : ∀ q ∈ mt_364_7, decode cL_law q.1 = .ok (q.2.1, q.2.2.1) ∧ mlen q.2.1 q.2.2.1 = true := mJoin 12 10 (by decide +kernel) fun j hj => by
  rcases (show j = 0 ∨ j = 1 ∨ j = 2 ∨ j = 3 ∨ j = 4 ∨ j = 5 ∨ j = 6 ∨ j = 7 ∨ j = 8 ∨ j = 9 by omega) with rfl | rfl | rfl | rfl | rfl | rfl | rfl | rfl | rfl | rfl
  · exact mbx_364_7_0
  · exact mbx_364_7_12
  · exact mbx_364_7_24
  · exact mbx_364_7_36
  · exact mbx_364_7_48
  · exact mbx_364_7_60
  · exact mbx_364_7_72
  · exact mbx_364_7_84
  · exact mbx_364_7_96
  · exact mbx_364_7_108

theorem mb_364_8 : ∀ q ∈ mt_364_8, decode cL_law q.1 = .ok (q.2.1, q.2.2.1) ∧ mlen q.2.1 q.2.2.1 = true := mBk_ok (by decide +kernel)

theorem mb_364 : ∀ q ∈ mt_364, decode cL_law q.1 = .ok (q.2.1, q.2.2.1) ∧ mlen q.2.1 q.2.2.1 = true := mAllApp mb_364_0 (mAllApp mb_364_1 (mAllApp mb_364_2 (mAllApp mb_364_3 (mAllApp mb_364_4 (mAllApp mb_364_5 (mAllApp mb_364_6 (mAllApp mb_364_7 (mb_364_8))))))))
