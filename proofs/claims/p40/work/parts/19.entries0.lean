/-! Each entry's facts. -/

theorem mc_0 : mAllP 0 mt_0 :=
  mA0 rfl <| 
  mA1 rfl (⟨gw_175, gw_26, gw_27, Nat.le_of_ble_eq_true rfl, Nat.le_of_ble_eq_true rfl⟩) <| 
  mA0 rfl <| 
  mA1 rfl (⟨_, rfl, gw_176, gw_177, gw_9⟩) <| 
  mA0 rfl <| 
  mA1 rfl (⟨⟨Nat.le_of_ble_eq_true rfl, Nat.le_of_ble_eq_true rfl, Nat.le_of_ble_eq_true rfl, cal_34⟩, rfl, rfl, (fun E => ⟨(100000, 0), rfl, mNone _⟩), gw_179, rfl, Or.inr ⟨_, List.mem_of_getElem? (i := 3) rfl⟩⟩) <| 
  mA1 rfl (⟨_, rfl, Nat.le_of_ble_eq_true rfl, gw_205, rfl, Or.inr ⟨rfl, ini_0, rfl⟩⟩) <| 
  mA0 rfl <| 
  mA1 rfl (⟨_, rfl, gw_176, gw_177, gw_9⟩) <| 
  mA0 rfl <| 
  mA1 rfl (⟨⟨Nat.le_of_ble_eq_true rfl, Nat.le_of_ble_eq_true rfl, Nat.le_of_ble_eq_true rfl, cal_34⟩, rfl, rfl, (fun E => ⟨(100000, 0), rfl, mNone _⟩), gw_179, rfl, Or.inr ⟨_, List.mem_of_getElem? (i := 3) rfl⟩⟩) <| 
  mA1 rfl (⟨_, rfl, Nat.le_of_ble_eq_true rfl, gw_206, rfl, Or.inr ⟨rfl, ini_0, rfl⟩⟩) <| 
  mA0 rfl <| 
  mA1 rfl (⟨_, rfl, gw_203, gw_46, gw_3⟩) <| 
  mA0 rfl <| 
  mA0 rfl <| 
  mA1 rfl (⟨⟨Nat.le_of_ble_eq_true rfl, Nat.le_of_ble_eq_true rfl, Nat.le_of_ble_eq_true rfl, cal_92⟩, rfl, rfl, (fun E => ⟨(100000, 0), rfl, mNone _⟩), gw_48, rfl, Or.inl gw_204⟩) <| 
  mA1 rfl (⟨_, rfl, Nat.le_of_ble_eq_true rfl, gw_207, rfl, Or.inr ⟨rfl, ini_0, rfl⟩⟩) <| 
  mA0 rfl <| 
  mA1 rfl (⟨_, rfl, gw_203, gw_46, gw_3⟩) <| 
  mA0 rfl <| 
  mA0 rfl <| 
  mA1 rfl (⟨⟨Nat.le_of_ble_eq_true rfl, Nat.le_of_ble_eq_true rfl, Nat.le_of_ble_eq_true rfl, cal_92⟩, rfl, rfl, (fun E => ⟨(100000, 0), rfl, mNone _⟩), gw_48, rfl, Or.inl gw_204⟩) <| 
  mA1 rfl (⟨_, rfl, Nat.le_of_ble_eq_true rfl, gw_208, rfl, Or.inr ⟨rfl, ini_0, rfl⟩⟩) <| 
  mA0 rfl <| 
  mA1 rfl (⟨_, rfl, gw_203, gw_46, gw_3⟩) <| 
  mA0 rfl <| 
  mA0 rfl <| 
  mA1 rfl (⟨⟨Nat.le_of_ble_eq_true rfl, Nat.le_of_ble_eq_true rfl, Nat.le_of_ble_eq_true rfl, cal_92⟩, rfl, rfl, (fun E => ⟨(100000, 0), rfl, mNone _⟩), gw_48, rfl, Or.inl gw_204⟩) <| 
  mA1 rfl (⟨_, rfl, Nat.le_of_ble_eq_true rfl, gw_209, rfl, Or.inr ⟨rfl, ini_0, rfl⟩⟩) <| 
  mA0 rfl <| 
  mA1 rfl (⟨_, rfl, gw_203, gw_46, gw_3⟩) <| 
  mA0 rfl <| 
  mA0 rfl <| 
  mA1 rfl (⟨⟨Nat.le_of_ble_eq_true rfl, Nat.le_of_ble_eq_true rfl, Nat.le_of_ble_eq_true rfl, cal_92⟩, rfl, rfl, (fun E => ⟨(100000, 0), rfl, mNone _⟩), gw_48, rfl, Or.inl gw_204⟩) <| 
  mA1 rfl (⟨_, rfl, Nat.le_of_ble_eq_true rfl, gw_210, rfl, Or.inr ⟨rfl, ini_0, rfl⟩⟩) <| 
  mA0 rfl <| 
  mA1 rfl (⟨_, rfl, gw_203, gw_46, gw_3⟩) <| 
  mA0 rfl <| 
  mA0 rfl <| 
  mA1 rfl (⟨⟨Nat.le_of_ble_eq_true rfl, Nat.le_of_ble_eq_true rfl, Nat.le_of_ble_eq_true rfl, cal_92⟩, rfl, rfl, (fun E => ⟨(100000, 0), rfl, mNone _⟩), gw_48, rfl, Or.inl gw_204⟩) <| 
  mA1 rfl (⟨_, rfl, Nat.le_of_ble_eq_true rfl, gw_211, rfl, Or.inr ⟨rfl, ini_0, rfl⟩⟩) <| 
  mA1 rfl (rfl) <| trivial

theorem mc_1 : mAllP 1 mt_1 :=
  trivial

theorem mc_2 : mAllP 2 mt_2 :=
  mA0 rfl <| 
  mA1 rfl (⟨_, rfl, Nat.le_of_ble_eq_true rfl, gw_206, rfl⟩) <| 
  mA0 rfl <| 
  mA0 rfl <| 
  mA1 rfl (⟨⟨Nat.le_of_ble_eq_true rfl, Nat.le_of_ble_eq_true rfl, Nat.le_of_ble_eq_true rfl, cal_35⟩, rfl, gw_507, gw_508, gw_509, _, rfl, rfl⟩) <| 
  mA0 rfl <| 
  mA1 rfl (⟨⟨Nat.le_of_ble_eq_true rfl, Nat.le_of_ble_eq_true rfl, Nat.le_of_ble_eq_true rfl, cal_100⟩, rfl, gw_597, gw_87, gw_88, _, rfl, rfl⟩) <| 
  mA0 rfl <| 
  mA0 rfl <| 
  mA0 rfl <| 
  mA0 rfl <| 
  mA0 rfl <| 
  mA0 rfl <| 
  mA0 rfl <| 
  mA0 rfl <| 
  mA0 rfl <| 
  mA1 rfl (⟨_, rfl, Nat.le_of_ble_eq_true rfl, gw_206, rfl⟩) <| 
  mA0 rfl <| 
  mA0 rfl <| 
  mA0 rfl <| 
  mA1 rfl (⟨_, rfl, Nat.le_of_ble_eq_true rfl, gw_207, rfl⟩) <| 
  mA1 rfl (⟨⟨Nat.le_of_ble_eq_true rfl, Nat.le_of_ble_eq_true rfl, Nat.le_of_ble_eq_true rfl, cal_45⟩, rfl, gw_598, gw_599, gw_600, _, rfl, rfl⟩) <| 
  mA0 rfl <| 
  mA0 rfl <| 
  mA0 rfl <| 
  mA0 rfl <| 
  mA0 rfl <| 
  mA0 rfl <| 
  mA0 rfl <| 
  mA1 rfl (⟨_, rfl, Nat.le_of_ble_eq_true rfl, gw_207, rfl⟩) <| 
  mA0 rfl <| 
  mA1 rfl (⟨⟨Nat.le_of_ble_eq_true rfl, Nat.le_of_ble_eq_true rfl, Nat.le_of_ble_eq_true rfl, cal_5⟩, gw_611, Or.inl gw_610⟩) <| 
  mA0 rfl <| 
  mA0 rfl <| 
  mA1 rfl (⟨_, rfl, Nat.le_of_ble_eq_true rfl, gw_207, rfl⟩) <| 
  mA0 rfl <| 
  mA1 rfl (⟨⟨Nat.le_of_ble_eq_true rfl, Nat.le_of_ble_eq_true rfl, Nat.le_of_ble_eq_true rfl, cal_4⟩, gw_620, Or.inl gw_619⟩) <| 
  mA0 rfl <| 
  mA0 rfl <| 
  mA1 rfl (⟨⟨Nat.le_of_ble_eq_true rfl, Nat.le_of_ble_eq_true rfl, Nat.le_of_ble_eq_true rfl, cal_97⟩, rfl, gw_618, gw_79, gw_80, _, rfl, rfl⟩) <| 
  mA0 rfl <| 
  mA0 rfl <| 
  mA1 rfl (rfl) <| trivial

theorem mc_3 : mAllP 3 mt_3 :=
  mA0 rfl <| 
  mA0 rfl <| 
  mA1 rfl (⟨⟨Nat.le_of_ble_eq_true rfl, Nat.le_of_ble_eq_true rfl, Nat.le_of_ble_eq_true rfl, cal_95⟩, rfl, gw_614, gw_95, gw_96, _, rfl, rfl⟩) <| 
  mA0 rfl <| 
  mA0 rfl <| 
  mA1 rfl (Or.inl ⟨rfl, rfl⟩) <| trivial

theorem mc_4 : mAllP 4 mt_4 :=
  mA0 rfl <| 
  mA0 rfl <| 
  mA0 rfl <| 
  mA0 rfl <| 
  mA1 rfl (⟨⟨Nat.le_of_ble_eq_true rfl, Nat.le_of_ble_eq_true rfl, Nat.le_of_ble_eq_true rfl, cal_93⟩, rfl, gw_613, gw_91, gw_92, _, rfl, rfl⟩) <| 
  mA0 rfl <| 
  mA0 rfl <| 
  mA0 rfl <| 
  mA0 rfl <| 
  mA1 rfl (⟨⟨Nat.le_of_ble_eq_true rfl, Nat.le_of_ble_eq_true rfl, Nat.le_of_ble_eq_true rfl, cal_95⟩, rfl, gw_614, gw_95, gw_96, _, rfl, rfl⟩) <| 
  mA0 rfl <| 
  mA0 rfl <| 
  mA1 rfl (⟨⟨Nat.le_of_ble_eq_true rfl, Nat.le_of_ble_eq_true rfl, Nat.le_of_ble_eq_true rfl, cal_97⟩, rfl, gw_618, gw_79, gw_80, _, rfl, rfl⟩) <| 
  mA0 rfl <| 
  mA0 rfl <| 
  mA1 rfl (rfl) <| trivial

theorem mc_5 : mAllP 5 mt_5 :=
  mA0 rfl <| 
  mA0 rfl <| 
  mA0 rfl <| 
  mA0 rfl <| 
  mA0 rfl <| 
  mA0 rfl <| 
  mA1 rfl (⟨⟨Nat.le_of_ble_eq_true rfl, Nat.le_of_ble_eq_true rfl, Nat.le_of_ble_eq_true rfl, cal_93⟩, rfl, gw_613, gw_91, gw_92, _, rfl, rfl⟩) <| 
  mA0 rfl <| 
  mA0 rfl <| 
  mA0 rfl <| 
  mA1 rfl (⟨⟨Nat.le_of_ble_eq_true rfl, Nat.le_of_ble_eq_true rfl, Nat.le_of_ble_eq_true rfl, cal_95⟩, rfl, gw_614, gw_95, gw_96, _, rfl, rfl⟩) <| 
  mA0 rfl <| 
  mA0 rfl <| 
  mA0 rfl <| 
  mA0 rfl <| 
  mA0 rfl <| 
  mA0 rfl <| 
  mA0 rfl <| 
  mA1 rfl (⟨⟨Nat.le_of_ble_eq_true rfl, Nat.le_of_ble_eq_true rfl, Nat.le_of_ble_eq_true rfl, cal_6⟩, gw_616, Or.inl gw_615⟩) <| 
  mA0 rfl <| 
  mA0 rfl <| 
  mA0 rfl <| 
  mA0 rfl <| 
  mA0 rfl <| 
  mA0 rfl <| 
  mA1 rfl (⟨⟨Nat.le_of_ble_eq_true rfl, Nat.le_of_ble_eq_true rfl, Nat.le_of_ble_eq_true rfl, cal_95⟩, rfl, gw_614, gw_95, gw_96, _, rfl, rfl⟩) <| 
  mA0 rfl <| 
  mA1 rfl (⟨⟨Nat.le_of_ble_eq_true rfl, Nat.le_of_ble_eq_true rfl, Nat.le_of_ble_eq_true rfl, cal_97⟩, rfl, gw_618, gw_79, gw_80, _, rfl, rfl⟩) <| 
  mA0 rfl <| 
  mA0 rfl <| 
  mA0 rfl <| 
  mA0 rfl <| 
  mA0 rfl <| 
  mA1 rfl (⟨⟨Nat.le_of_ble_eq_true rfl, Nat.le_of_ble_eq_true rfl, Nat.le_of_ble_eq_true rfl, cal_6⟩, gw_616, Or.inl gw_615⟩) <| 
  mA1 rfl (rfl) <| trivial

theorem mc_6 : mAllP 6 mt_6 :=
  mA0 rfl <| 
  mA0 rfl <| 
  mA0 rfl <| 
  mA0 rfl <| 
  mA0 rfl <| 
  mA0 rfl <| 
  mA0 rfl <| 
  mA1 rfl (⟨⟨Nat.le_of_ble_eq_true rfl, Nat.le_of_ble_eq_true rfl, Nat.le_of_ble_eq_true rfl, cal_97⟩, rfl, gw_618, gw_79, gw_80, _, rfl, rfl⟩) <| 
  mA0 rfl <| 
  mA0 rfl <| 
  mA0 rfl <| 
  mA0 rfl <| 
  mA0 rfl <| 
  mA0 rfl <| 
  mA0 rfl <| 
  mA0 rfl <| 
  mA0 rfl <| 
  mA0 rfl <| 
  mA0 rfl <| 
  mA0 rfl <| 
  mA0 rfl <| 
  mA0 rfl <| 
  mA1 rfl (⟨⟨Nat.le_of_ble_eq_true rfl, Nat.le_of_ble_eq_true rfl, Nat.le_of_ble_eq_true rfl, cal_97⟩, rfl, gw_618, gw_79, gw_80, _, rfl, rfl⟩) <| 
  mA1 rfl (rfl) <| trivial

theorem mc_7 : mAllP 7 mt_7 :=
  mA0 rfl <| 
  mA0 rfl <| 
  mA0 rfl <| 
  mA0 rfl <| 
  mA0 rfl <| 
  mA1 rfl (⟨_, rfl, Nat.le_of_ble_eq_true rfl, gw_209, rfl⟩) <| 
  mA1 rfl (⟨⟨Nat.le_of_ble_eq_true rfl, Nat.le_of_ble_eq_true rfl, Nat.le_of_ble_eq_true rfl, cal_2⟩, rfl, gw_1203, gw_504, gw_505, _, rfl, rfl⟩) <| 
  mA0 rfl <| 
  mA1 rfl (⟨_, rfl, Nat.le_of_ble_eq_true rfl, gw_209, rfl⟩) <| 
  mA0 rfl <| 
  mA1 rfl (⟨⟨Nat.le_of_ble_eq_true rfl, Nat.le_of_ble_eq_true rfl, Nat.le_of_ble_eq_true rfl, cal_95⟩, rfl, gw_614, gw_95, gw_96, _, rfl, rfl⟩) <| 
  mA1 rfl (Or.inl ⟨rfl, rfl⟩) <| trivial

theorem mc_8 : mAllP 8 mt_8 :=
  mA0 rfl <| 
  mA0 rfl <| 
  mA0 rfl <| 
  mA0 rfl <| 
  mA0 rfl <| 
  mA1 rfl (⟨_, rfl, Nat.le_of_ble_eq_true rfl, gw_209, rfl⟩) <| 
  mA1 rfl (⟨⟨Nat.le_of_ble_eq_true rfl, Nat.le_of_ble_eq_true rfl, Nat.le_of_ble_eq_true rfl, cal_2⟩, rfl, gw_1203, gw_504, gw_505, _, rfl, rfl⟩) <| 
  mA0 rfl <| 
  mA0 rfl <| 
  mA0 rfl <| 
  mA0 rfl <| 
  mA0 rfl <| 
  mA1 rfl (⟨_, rfl, Nat.le_of_ble_eq_true rfl, gw_210, rfl⟩) <| 
  mA1 rfl (⟨⟨Nat.le_of_ble_eq_true rfl, Nat.le_of_ble_eq_true rfl, Nat.le_of_ble_eq_true rfl, cal_2⟩, rfl, gw_1203, gw_504, gw_505, _, rfl, rfl⟩) <| 
  mA0 rfl <| 
  mA1 rfl (⟨_, rfl, Nat.le_of_ble_eq_true rfl, gw_209, rfl⟩) <| 
  mA0 rfl <| 
  mA1 rfl (⟨_, rfl, Nat.le_of_ble_eq_true rfl, gw_210, rfl⟩) <| 
  mA1 rfl (⟨⟨Nat.le_of_ble_eq_true rfl, Nat.le_of_ble_eq_true rfl, Nat.le_of_ble_eq_true rfl, cal_192⟩, gw_643, Or.inr ⟨rfl, (fun E => ⟨(100000, 0), rfl, mNone _⟩), _, List.mem_of_getElem? (i := 20) rfl⟩⟩) <| 
  mA1 rfl (Or.inl ⟨rfl, rfl⟩) <| trivial

theorem mc_9 : mAllP 9 mt_9 :=
  mA0 rfl <| 
  mA1 rfl (⟨_, rfl, Nat.le_of_ble_eq_true rfl, gw_205, rfl⟩) <| 
  mA0 rfl <| 
  mA0 rfl <| 
  mA1 rfl (⟨⟨Nat.le_of_ble_eq_true rfl, Nat.le_of_ble_eq_true rfl, Nat.le_of_ble_eq_true rfl, cal_35⟩, rfl, gw_507, gw_508, gw_509, _, rfl, rfl⟩) <| 
  mA0 rfl <| 
  mA1 rfl (⟨_, rfl, Nat.le_of_ble_eq_true rfl, gw_206, rfl⟩) <| 
  mA0 rfl <| 
  mA0 rfl <| 
  mA1 rfl (⟨⟨Nat.le_of_ble_eq_true rfl, Nat.le_of_ble_eq_true rfl, Nat.le_of_ble_eq_true rfl, cal_35⟩, rfl, gw_507, gw_508, gw_509, _, rfl, rfl⟩) <| 
  mA0 rfl <| 
  mA0 rfl <| 
  mA0 rfl <| 
  mA0 rfl <| 
  mA0 rfl <| 
  mA0 rfl <| 
  mA0 rfl <| 
  mA0 rfl <| 
  mA0 rfl <| 
  mA0 rfl <| 
  mA1 rfl (⟨_, rfl, Nat.le_of_ble_eq_true rfl, gw_205, rfl⟩) <| 
  mA0 rfl <| 
  mA0 rfl <| 
  mA0 rfl <| 
  mA1 rfl (⟨_, rfl, Nat.le_of_ble_eq_true rfl, gw_207, rfl⟩) <| 
  mA1 rfl (⟨⟨Nat.le_of_ble_eq_true rfl, Nat.le_of_ble_eq_true rfl, Nat.le_of_ble_eq_true rfl, cal_45⟩, rfl, gw_598, gw_599, gw_600, _, rfl, rfl⟩) <| 
  mA0 rfl <| 
  mA1 rfl (⟨_, rfl, Nat.le_of_ble_eq_true rfl, gw_206, rfl⟩) <| 
  mA0 rfl <| 
  mA0 rfl <| 
  mA0 rfl <| 
  mA1 rfl (⟨_, rfl, Nat.le_of_ble_eq_true rfl, gw_208, rfl⟩) <| 
  mA1 rfl (⟨⟨Nat.le_of_ble_eq_true rfl, Nat.le_of_ble_eq_true rfl, Nat.le_of_ble_eq_true rfl, cal_45⟩, rfl, gw_598, gw_599, gw_600, _, rfl, rfl⟩) <| 
  mA0 rfl <| 
  mA1 rfl (⟨_, rfl, Nat.le_of_ble_eq_true rfl, gw_207, rfl⟩) <| 
  mA0 rfl <| 
  mA1 rfl (⟨_, rfl, Nat.le_of_ble_eq_true rfl, gw_208, rfl⟩) <| 
  mA1 rfl (⟨⟨Nat.le_of_ble_eq_true rfl, Nat.le_of_ble_eq_true rfl, Nat.le_of_ble_eq_true rfl, cal_192⟩, gw_643, Or.inr ⟨rfl, (fun E => ⟨(100000, 0), rfl, mNone _⟩), _, List.mem_of_getElem? (i := 20) rfl⟩⟩) <| 
  mA0 rfl <| 
  mA0 rfl <| 
  mA0 rfl <| 
  mA0 rfl <| 
  mA1 rfl (Or.inl ⟨rfl, rfl⟩) <| trivial

theorem mc_10 : mAllP 10 mt_10 :=
  trivial

theorem mc_11 : mAllP 11 mt_11 :=
  trivial

theorem mc_12 : mAllP 12 mt_12 :=
  mA0 rfl <| 
  mA1 rfl (⟨gw_33, gw_26, gw_27, Nat.le_of_ble_eq_true rfl, Nat.le_of_ble_eq_true rfl⟩) <| 
  mA0 rfl <| 
  mA0 rfl <| 
  mA1 rfl (gw_44) <| 
  mA1 rfl (⟨_, rfl, Nat.le_of_ble_eq_true rfl, gw_34, rfl, Or.inr ⟨rfl, ini_12, rfl⟩⟩) <| 
  mA0 rfl <| 
  mA0 rfl <| 
  mA1 rfl (gw_44) <| 
  mA1 rfl (⟨_, rfl, Nat.le_of_ble_eq_true rfl, gw_35, rfl, Or.inr ⟨rfl, ini_12, rfl⟩⟩) <| 
  mA0 rfl <| 
  mA0 rfl <| 
  mA0 rfl <| 
  mA0 rfl <| 
  mA0 rfl <| 
  mA0 rfl <| 
  mA1 rfl (⟨_, rfl, Nat.le_of_ble_eq_true rfl, gw_34, rfl⟩) <| 
  mA0 rfl <| 
  mA0 rfl <| 
  mA0 rfl <| 
  mA0 rfl <| 
  mA1 rfl (⟨_, rfl, Nat.le_of_ble_eq_true rfl, gw_35, rfl⟩) <| 
  mA0 rfl <| 
  mA0 rfl <| 
  mA0 rfl <| 
  mA0 rfl <| 
  mA0 rfl <| 
  mA1 rfl (rfl) <| trivial

theorem mc_13 : mAllP 13 mt_13 :=
  mA0 rfl <| 
  mA1 rfl (⟨_, rfl, Nat.le_of_ble_eq_true rfl, gw_36, rfl⟩) <| 
  mA1 rfl (Or.inl ⟨rfl, rfl⟩) <| trivial

theorem mc_14 : mAllP 14 mt_14 :=
  mA0 rfl <| 
  mA0 rfl <| 
  mA1 rfl (⟨⟨Nat.le_of_ble_eq_true rfl, Nat.le_of_ble_eq_true rfl, Nat.le_of_ble_eq_true rfl, cal_15⟩, rfl, gw_829, gw_831, gs_15, _, rfl, rfl⟩) <| 
  mA0 rfl <| 
  mA0 rfl <| 
  mA0 rfl <| 
  mA0 rfl <| 
  mA0 rfl <| 
  mA1 rfl (Or.inr ⟨by decide, rfl⟩) <| trivial

theorem mc_15 : mAllP 15 mt_15 :=
  mA0 rfl <| 
  mA0 rfl <| 
  mA0 rfl <| 
  mA0 rfl <| 
  mA0 rfl <| 
  mA0 rfl <| 
  mA1 rfl (⟨_, rfl, Nat.le_of_ble_eq_true rfl, gw_34, rfl⟩) <| 
  mA0 rfl <| 
  mA0 rfl <| 
  mA0 rfl <| 
  mA0 rfl <| 
  mA1 rfl (Or.inl ⟨rfl, rfl⟩) <| trivial

theorem mc_16 : mAllP 16 mt_16 :=
  mA0 rfl <| 
  mA0 rfl <| 
  mA0 rfl <| 
  mA0 rfl <| 
  mA0 rfl <| 
  mA0 rfl <| 
  mA1 rfl (⟨_, rfl, Nat.le_of_ble_eq_true rfl, gw_35, rfl⟩) <| 
  mA0 rfl <| 
  mA0 rfl <| 
  mA0 rfl <| 
  mA0 rfl <| 
  mA1 rfl (Or.inl ⟨rfl, rfl⟩) <| trivial

theorem mc_17 : mAllP 17 mt_17 :=
  mA0 rfl <| 
  mA1 rfl (⟨⟨Nat.le_of_ble_eq_true rfl, Nat.le_of_ble_eq_true rfl, Nat.le_of_ble_eq_true rfl, cal_178⟩, gw_844, Or.inr ⟨rfl, (fun E => ⟨(100000, 0), rfl, mNone _⟩), _, List.mem_of_getElem? (i := 15) rfl⟩⟩) <| 
  mA0 rfl <| 
  mA0 rfl <| 
  mA0 rfl <| 
  mA1 rfl (⟨⟨Nat.le_of_ble_eq_true rfl, Nat.le_of_ble_eq_true rfl, Nat.le_of_ble_eq_true rfl, cal_15⟩, rfl, gw_829, gw_831, gs_15, _, rfl, rfl⟩) <| 
  mA1 rfl (⟨⟨Nat.le_of_ble_eq_true rfl, Nat.le_of_ble_eq_true rfl, Nat.le_of_ble_eq_true rfl, cal_178⟩, gw_844, Or.inr ⟨rfl, (fun E => ⟨(100000, 0), rfl, mNone _⟩), _, List.mem_of_getElem? (i := 15) rfl⟩⟩) <| 
  mA0 rfl <| 
  mA0 rfl <| 
  mA0 rfl <| 
  mA0 rfl <| 
  mA1 rfl (Or.inr ⟨by decide, rfl⟩) <| trivial

theorem mc_18 : mAllP 18 mt_18 :=
  mA0 rfl <| 
  mA0 rfl <| 
  mA0 rfl <| 
  mA0 rfl <| 
  mA0 rfl <| 
  mA0 rfl <| 
  mA1 rfl (⟨_, rfl, Nat.le_of_ble_eq_true rfl, gw_34, rfl⟩) <| 
  mA0 rfl <| 
  mA0 rfl <| 
  mA0 rfl <| 
  mA0 rfl <| 
  mA1 rfl (⟨_, rfl, Nat.le_of_ble_eq_true rfl, gw_35, rfl⟩) <| 
  mA0 rfl <| 
  mA0 rfl <| 
  mA0 rfl <| 
  mA0 rfl <| 
  mA0 rfl <| 
  mA1 rfl (⟨_, rfl, Nat.le_of_ble_eq_true rfl, gw_36, rfl⟩) <| 
  mA0 rfl <| 
  mA0 rfl <| 
  mA1 rfl (⟨_, rfl, Nat.le_of_ble_eq_true rfl, gw_36, rfl, Or.inl rfl⟩) <| 
  mA1 rfl (rfl) <| trivial

theorem mc_19 : mAllP 19 mt_19 :=
  mA0 rfl <| 
  mA0 rfl <| 
  mA0 rfl <| 
  mA0 rfl <| 
  mA0 rfl <| 
  mA0 rfl <| 
  mA1 rfl (⟨_, rfl, Nat.le_of_ble_eq_true rfl, gw_34, rfl⟩) <| 
  mA0 rfl <| 
  mA0 rfl <| 
  mA0 rfl <| 
  mA0 rfl <| 
  mA0 rfl <| 
  mA1 rfl (⟨_, rfl, Nat.le_of_ble_eq_true rfl, gw_35, rfl⟩) <| 
  mA0 rfl <| 
  mA0 rfl <| 
  mA0 rfl <| 
  mA0 rfl <| 
  mA0 rfl <| 
  mA1 rfl (Or.inl ⟨rfl, rfl⟩) <| 
  mA0 rfl <| 
  mA0 rfl <| 
  mA0 rfl <| 
  mA1 rfl (Or.inl ⟨rfl, rfl⟩) <| trivial

theorem mc_20 : mAllP 20 mt_20 :=
  mA0 rfl <| 
  mA1 rfl (⟨⟨Nat.le_of_ble_eq_true rfl, Nat.le_of_ble_eq_true rfl, Nat.le_of_ble_eq_true rfl, cal_100⟩, rfl, gw_869, gw_87, gw_88, _, rfl, rfl⟩) <| 
  mA0 rfl <| 
  mA0 rfl <| 
  mA0 rfl <| 
  mA0 rfl <| 
  mA1 rfl (⟨⟨Nat.le_of_ble_eq_true rfl, Nat.le_of_ble_eq_true rfl, Nat.le_of_ble_eq_true rfl, cal_93⟩, rfl, gw_870, gw_91, gw_92, _, rfl, rfl⟩) <| 
  mA0 rfl <| 
  mA0 rfl <| 
  mA0 rfl <| 
  mA0 rfl <| 
  mA1 rfl (⟨⟨Nat.le_of_ble_eq_true rfl, Nat.le_of_ble_eq_true rfl, Nat.le_of_ble_eq_true rfl, cal_95⟩, rfl, gw_871, gw_95, gw_96, _, rfl, rfl⟩) <| 
  mA0 rfl <| 
  mA1 rfl (⟨⟨Nat.le_of_ble_eq_true rfl, Nat.le_of_ble_eq_true rfl, Nat.le_of_ble_eq_true rfl, cal_21⟩, rfl, gw_872, gw_874, gs_21, _, rfl, rfl⟩) <| 
  mA0 rfl <| 
  mA0 rfl <| 
  mA0 rfl <| 
  mA0 rfl <| 
  mA0 rfl <| 
  mA0 rfl <| 
  mA1 rfl (⟨⟨Nat.le_of_ble_eq_true rfl, Nat.le_of_ble_eq_true rfl, Nat.le_of_ble_eq_true rfl, cal_93⟩, rfl, gw_870, gw_91, gw_92, _, rfl, rfl⟩) <| 
  mA0 rfl <| 
  mA0 rfl <| 
  mA0 rfl <| 
  mA1 rfl (⟨⟨Nat.le_of_ble_eq_true rfl, Nat.le_of_ble_eq_true rfl, Nat.le_of_ble_eq_true rfl, cal_22⟩, gw_883, Or.inl gw_882⟩) <| 
  mA0 rfl <| 
  mA0 rfl <| 
  mA1 rfl (rfl) <| trivial

theorem mc_21 : mAllP 21 mt_21 :=
  mA0 rfl <| 
  mA0 rfl <| 
  mA1 rfl (⟨⟨Nat.le_of_ble_eq_true rfl, Nat.le_of_ble_eq_true rfl, Nat.le_of_ble_eq_true rfl, cal_14⟩, rfl, gw_876, gw_826, gw_827, _, rfl, rfl⟩) <| 
  mA0 rfl <| 
  mA0 rfl <| 
  mA0 rfl <| 
  mA1 rfl (⟨⟨Nat.le_of_ble_eq_true rfl, Nat.le_of_ble_eq_true rfl, Nat.le_of_ble_eq_true rfl, cal_15⟩, rfl, gw_829, gw_831, gs_15, _, rfl, rfl⟩) <| 
  mA0 rfl <| 
  mA0 rfl <| 
  mA0 rfl <| 
  mA0 rfl <| 
  mA0 rfl <| 
  mA0 rfl <| 
  mA1 rfl (⟨⟨Nat.le_of_ble_eq_true rfl, Nat.le_of_ble_eq_true rfl, Nat.le_of_ble_eq_true rfl, cal_14⟩, rfl, gw_876, gw_826, gw_827, _, rfl, rfl⟩) <| 
  mA0 rfl <| 
  mA0 rfl <| 
  mA0 rfl <| 
  mA1 rfl (⟨⟨Nat.le_of_ble_eq_true rfl, Nat.le_of_ble_eq_true rfl, Nat.le_of_ble_eq_true rfl, cal_15⟩, rfl, gw_829, gw_831, gs_15, _, rfl, rfl⟩) <| 
  mA0 rfl <| 
  mA0 rfl <| 
  mA1 rfl (⟨⟨Nat.le_of_ble_eq_true rfl, Nat.le_of_ble_eq_true rfl, Nat.le_of_ble_eq_true rfl, cal_97⟩, rfl, gw_877, gw_79, gw_80, _, rfl, rfl⟩) <| 
  mA0 rfl <| 
  mA0 rfl <| 
  mA1 rfl (⟨⟨Nat.le_of_ble_eq_true rfl, Nat.le_of_ble_eq_true rfl, Nat.le_of_ble_eq_true rfl, cal_14⟩, rfl, gw_876, gw_826, gw_827, _, rfl, rfl⟩) <| 
  mA0 rfl <| 
  mA0 rfl <| 
  mA0 rfl <| 
  mA0 rfl <| 
  mA1 rfl (⟨⟨Nat.le_of_ble_eq_true rfl, Nat.le_of_ble_eq_true rfl, Nat.le_of_ble_eq_true rfl, cal_16⟩, rfl, gw_878, gw_880, gs_16, _, rfl, rfl⟩) <| 
  mA1 rfl (⟨⟨Nat.le_of_ble_eq_true rfl, Nat.le_of_ble_eq_true rfl, Nat.le_of_ble_eq_true rfl, cal_97⟩, rfl, gw_877, gw_79, gw_80, _, rfl, rfl⟩) <| 
  mA0 rfl <| 
  mA0 rfl <| 
  mA1 rfl (⟨⟨Nat.le_of_ble_eq_true rfl, Nat.le_of_ble_eq_true rfl, Nat.le_of_ble_eq_true rfl, cal_14⟩, rfl, gw_876, gw_826, gw_827, _, rfl, rfl⟩) <| 
  mA0 rfl <| 
  mA0 rfl <| 
  mA0 rfl <| 
  mA0 rfl <| 
  mA1 rfl (⟨⟨Nat.le_of_ble_eq_true rfl, Nat.le_of_ble_eq_true rfl, Nat.le_of_ble_eq_true rfl, cal_16⟩, rfl, gw_878, gw_880, gs_16, _, rfl, rfl⟩) <| 
  mA1 rfl (⟨⟨Nat.le_of_ble_eq_true rfl, Nat.le_of_ble_eq_true rfl, Nat.le_of_ble_eq_true rfl, cal_97⟩, rfl, gw_877, gw_79, gw_80, _, rfl, rfl⟩) <| 
  mA1 rfl (rfl) <| trivial

theorem mc_22 : mAllP 22 mt_22 :=
  mA0 rfl <| 
  mA0 rfl <| 
  mA1 rfl (⟨⟨Nat.le_of_ble_eq_true rfl, Nat.le_of_ble_eq_true rfl, Nat.le_of_ble_eq_true rfl, cal_95⟩, rfl, gw_871, gw_95, gw_96, _, rfl, rfl⟩) <| 
  mA0 rfl <| 
  mA0 rfl <| 
  mA0 rfl <| 
  mA0 rfl <| 
  mA0 rfl <| 
  mA0 rfl <| 
  mA1 rfl (⟨⟨Nat.le_of_ble_eq_true rfl, Nat.le_of_ble_eq_true rfl, Nat.le_of_ble_eq_true rfl, cal_179⟩, gw_520, Or.inr ⟨rfl, (fun E => ⟨(100000, 0), rfl, mNone _⟩), _, List.mem_of_getElem? (i := 16) rfl⟩⟩) <| 
  mA0 rfl <| 
  mA0 rfl <| 
  mA0 rfl <| 
  mA0 rfl <| 
  mA0 rfl <| 
  mA1 rfl (⟨⟨Nat.le_of_ble_eq_true rfl, Nat.le_of_ble_eq_true rfl, Nat.le_of_ble_eq_true rfl, cal_95⟩, rfl, gw_871, gw_95, gw_96, _, rfl, rfl⟩) <| 
  mA1 rfl (⟨⟨Nat.le_of_ble_eq_true rfl, Nat.le_of_ble_eq_true rfl, Nat.le_of_ble_eq_true rfl, cal_182⟩, gw_579, Or.inr ⟨rfl, (fun E => ⟨(100000, 0), rfl, mNone _⟩), _, List.mem_of_getElem? (i := 17) rfl⟩⟩) <| 
  mA0 rfl <| 
  mA1 rfl (⟨⟨Nat.le_of_ble_eq_true rfl, Nat.le_of_ble_eq_true rfl, Nat.le_of_ble_eq_true rfl, cal_182⟩, gw_579, Or.inr ⟨rfl, (fun E => ⟨(100000, 0), rfl, mNone _⟩), _, List.mem_of_getElem? (i := 17) rfl⟩⟩) <| 
  mA0 rfl <| 
  mA0 rfl <| 
  mA0 rfl <| 
  mA0 rfl <| 
  mA0 rfl <| 
  mA0 rfl <| 
  mA0 rfl <| 
  mA1 rfl (⟨⟨Nat.le_of_ble_eq_true rfl, Nat.le_of_ble_eq_true rfl, Nat.le_of_ble_eq_true rfl, cal_95⟩, rfl, gw_871, gw_95, gw_96, _, rfl, rfl⟩) <| 
  mA1 rfl (⟨⟨Nat.le_of_ble_eq_true rfl, Nat.le_of_ble_eq_true rfl, Nat.le_of_ble_eq_true rfl, cal_96⟩, rfl, gw_887, gw_531, gw_532, _, rfl, rfl⟩) <| 
  mA0 rfl <| 
  mA0 rfl <| 
  mA0 rfl <| 
  mA0 rfl <| 
  mA0 rfl <| 
  mA1 rfl (⟨⟨Nat.le_of_ble_eq_true rfl, Nat.le_of_ble_eq_true rfl, Nat.le_of_ble_eq_true rfl, cal_96⟩, rfl, gw_887, gw_531, gw_532, _, rfl, rfl⟩) <| 
  mA1 rfl (rfl) <| trivial

theorem mc_23 : mAllP 23 mt_23 :=
  mA0 rfl <| 
  mA1 rfl (⟨⟨Nat.le_of_ble_eq_true rfl, Nat.le_of_ble_eq_true rfl, Nat.le_of_ble_eq_true rfl, cal_100⟩, rfl, gw_869, gw_87, gw_88, _, rfl, rfl⟩) <| 
  mA0 rfl <| 
  mA0 rfl <| 
  mA0 rfl <| 
  mA0 rfl <| 
  mA0 rfl <| 
  mA0 rfl <| 
  mA0 rfl <| 
  mA0 rfl <| 
  mA1 rfl (⟨⟨Nat.le_of_ble_eq_true rfl, Nat.le_of_ble_eq_true rfl, Nat.le_of_ble_eq_true rfl, cal_93⟩, rfl, gw_870, gw_91, gw_92, _, rfl, rfl⟩) <| 
  mA0 rfl <| 
  mA0 rfl <| 
  mA0 rfl <| 
  mA1 rfl (⟨⟨Nat.le_of_ble_eq_true rfl, Nat.le_of_ble_eq_true rfl, Nat.le_of_ble_eq_true rfl, cal_95⟩, rfl, gw_871, gw_95, gw_96, _, rfl, rfl⟩) <| 
  mA0 rfl <| 
  mA0 rfl <| 
  mA0 rfl <| 
  mA0 rfl <| 
  mA0 rfl <| 
  mA1 rfl (⟨⟨Nat.le_of_ble_eq_true rfl, Nat.le_of_ble_eq_true rfl, Nat.le_of_ble_eq_true rfl, cal_182⟩, gw_579, Or.inr ⟨rfl, (fun E => ⟨(100000, 0), rfl, mNone _⟩), _, List.mem_of_getElem? (i := 17) rfl⟩⟩) <| 
  mA0 rfl <| 
  mA0 rfl <| 
  mA0 rfl <| 
  mA0 rfl <| 
  mA0 rfl <| 
  mA0 rfl <| 
  mA0 rfl <| 
  mA1 rfl (⟨⟨Nat.le_of_ble_eq_true rfl, Nat.le_of_ble_eq_true rfl, Nat.le_of_ble_eq_true rfl, cal_179⟩, gw_520, Or.inr ⟨rfl, (fun E => ⟨(100000, 0), rfl, mNone _⟩), _, List.mem_of_getElem? (i := 16) rfl⟩⟩) <| 
  mA0 rfl <| 
  mA0 rfl <| 
  mA0 rfl <| 
  mA0 rfl <| 
  mA0 rfl <| 
  mA0 rfl <| 
  mA1 rfl (⟨⟨Nat.le_of_ble_eq_true rfl, Nat.le_of_ble_eq_true rfl, Nat.le_of_ble_eq_true rfl, cal_95⟩, rfl, gw_871, gw_95, gw_96, _, rfl, rfl⟩) <| 
  mA0 rfl <| 
  mA1 rfl (⟨⟨Nat.le_of_ble_eq_true rfl, Nat.le_of_ble_eq_true rfl, Nat.le_of_ble_eq_true rfl, cal_19⟩, rfl, gw_1129, gw_848, gw_849, _, rfl, rfl⟩) <| 
  mA0 rfl <| 
  mA0 rfl <| 
  mA0 rfl <| 
  mA0 rfl <| 
  mA0 rfl <| 
  mA0 rfl <| 
  mA0 rfl <| 
  mA0 rfl <| 
  mA0 rfl <| 
  mA1 rfl (⟨⟨Nat.le_of_ble_eq_true rfl, Nat.le_of_ble_eq_true rfl, Nat.le_of_ble_eq_true rfl, cal_96⟩, rfl, gw_887, gw_531, gw_532, _, rfl, rfl⟩) <| 
  mA0 rfl <| 
  mA0 rfl <| 
  mA0 rfl <| 
  mA1 rfl (⟨⟨Nat.le_of_ble_eq_true rfl, Nat.le_of_ble_eq_true rfl, Nat.le_of_ble_eq_true rfl, cal_97⟩, rfl, gw_877, gw_79, gw_80, _, rfl, rfl⟩) <| 
  mA0 rfl <| 
  mA1 rfl (⟨⟨Nat.le_of_ble_eq_true rfl, Nat.le_of_ble_eq_true rfl, Nat.le_of_ble_eq_true rfl, cal_179⟩, gw_520, Or.inr ⟨rfl, (fun E => ⟨(100000, 0), rfl, mNone _⟩), _, List.mem_of_getElem? (i := 16) rfl⟩⟩) <| 
  mA0 rfl <| 
  mA0 rfl <| 
  mA0 rfl <| 
  mA1 rfl (⟨⟨Nat.le_of_ble_eq_true rfl, Nat.le_of_ble_eq_true rfl, Nat.le_of_ble_eq_true rfl, cal_182⟩, gw_579, Or.inr ⟨rfl, (fun E => ⟨(100000, 0), rfl, mNone _⟩), _, List.mem_of_getElem? (i := 17) rfl⟩⟩) <| 
  mA1 rfl (⟨⟨Nat.le_of_ble_eq_true rfl, Nat.le_of_ble_eq_true rfl, Nat.le_of_ble_eq_true rfl, cal_329⟩, gw_52, Or.inl gw_1130⟩) <| 
  mA0 rfl <| 
  mA0 rfl <| 
  mA0 rfl <| 
  mA0 rfl <| 
  mA1 rfl (⟨⟨Nat.le_of_ble_eq_true rfl, Nat.le_of_ble_eq_true rfl, Nat.le_of_ble_eq_true rfl, cal_179⟩, gw_520, Or.inr ⟨rfl, (fun E => ⟨(100000, 0), rfl, mNone _⟩), _, List.mem_of_getElem? (i := 16) rfl⟩⟩) <| 
  mA0 rfl <| 
  mA0 rfl <| 
  mA1 rfl (⟨⟨Nat.le_of_ble_eq_true rfl, Nat.le_of_ble_eq_true rfl, Nat.le_of_ble_eq_true rfl, cal_178⟩, gw_844, Or.inr ⟨rfl, (fun E => ⟨(100000, 0), rfl, mNone _⟩), _, List.mem_of_getElem? (i := 15) rfl⟩⟩) <| 
  mA0 rfl <| 
  mA0 rfl <| 
  mA1 rfl (⟨⟨Nat.le_of_ble_eq_true rfl, Nat.le_of_ble_eq_true rfl, Nat.le_of_ble_eq_true rfl, cal_93⟩, rfl, gw_870, gw_91, gw_92, _, rfl, rfl⟩) <| 
  mA0 rfl <| 
  mA0 rfl <| 
  mA0 rfl <| 
  mA0 rfl <| 
  mA0 rfl <| 
  mA0 rfl <| 
  mA0 rfl <| 
  mA1 rfl (rfl) <| trivial

theorem mc_24 : mAllP 24 mt_24 :=
  mA0 rfl <| 
  mA1 rfl (⟨gw_142, gw_26, gw_27, Nat.le_of_ble_eq_true rfl, Nat.le_of_ble_eq_true rfl⟩) <| 
  mA0 rfl <| 
  mA1 rfl (⟨_, rfl, gw_143, gw_46, gw_3⟩) <| 
  mA0 rfl <| 
  mA0 rfl <| 
  mA1 rfl (⟨⟨Nat.le_of_ble_eq_true rfl, Nat.le_of_ble_eq_true rfl, Nat.le_of_ble_eq_true rfl, cal_92⟩, rfl, rfl, (fun E => ⟨(100000, 0), rfl, mNone _⟩), gw_48, rfl, Or.inl gw_144⟩) <| 
  mA1 rfl (⟨_, rfl, Nat.le_of_ble_eq_true rfl, gw_145, rfl, Or.inr ⟨rfl, ini_24, rfl⟩⟩) <| 
  mA0 rfl <| 
  mA1 rfl (⟨_, rfl, gw_143, gw_46, gw_3⟩) <| 
  mA0 rfl <| 
  mA0 rfl <| 
  mA1 rfl (⟨⟨Nat.le_of_ble_eq_true rfl, Nat.le_of_ble_eq_true rfl, Nat.le_of_ble_eq_true rfl, cal_92⟩, rfl, rfl, (fun E => ⟨(100000, 0), rfl, mNone _⟩), gw_48, rfl, Or.inl gw_144⟩) <| 
  mA1 rfl (⟨_, rfl, Nat.le_of_ble_eq_true rfl, gw_146, rfl, Or.inr ⟨rfl, ini_24, rfl⟩⟩) <| 
  mA0 rfl <| 
  mA0 rfl <| 
  mA1 rfl (⟨Nat.le_of_ble_eq_true rfl, Nat.le_of_ble_eq_true rfl, _, rfl, gw_143⟩) <| 
  mA1 rfl (⟨_, rfl, Nat.le_of_ble_eq_true rfl, gw_147, rfl, Or.inr ⟨rfl, ini_24, rfl⟩⟩) <| 
  mA0 rfl <| 
  mA0 rfl <| 
  mA0 rfl <| 
  mA0 rfl <| 
  mA0 rfl <| 
  mA0 rfl <| 
  mA1 rfl (⟨_, rfl, Nat.le_of_ble_eq_true rfl, gw_147, rfl⟩) <| 
  mA0 rfl <| 
  mA1 rfl (⟨_, rfl, gw_143, gw_46, gw_3⟩) <| 
  mA0 rfl <| 
  mA0 rfl <| 
  mA1 rfl (⟨⟨Nat.le_of_ble_eq_true rfl, Nat.le_of_ble_eq_true rfl, Nat.le_of_ble_eq_true rfl, cal_92⟩, rfl, rfl, (fun E => ⟨(100000, 0), rfl, mNone _⟩), gw_48, rfl, Or.inl gw_144⟩) <| 
  mA1 rfl (⟨Nat.le_of_ble_eq_true rfl, Nat.le_of_ble_eq_true rfl, _, rfl, rfl⟩) <| 
  mA0 rfl <| 
  mA0 rfl <| 
  mA1 rfl (rfl) <| trivial

theorem mc_25 : mAllP 25 mt_25 :=
  mA0 rfl <| 
  mA1 rfl (⟨_, rfl, Nat.le_of_ble_eq_true rfl, gw_145, rfl⟩) <| 
  mA1 rfl (⟨⟨Nat.le_of_ble_eq_true rfl, Nat.le_of_ble_eq_true rfl, Nat.le_of_ble_eq_true rfl, cal_93⟩, rfl, gw_696, gw_91, gw_92, _, rfl, rfl⟩) <| 
  mA1 rfl (Or.inl ⟨rfl, rfl⟩) <| trivial

theorem mc_26 : mAllP 26 mt_26 :=
  mA0 rfl <| 
  mA0 rfl <| 
  mA0 rfl <| 
  mA0 rfl <| 
  mA1 rfl (⟨_, rfl, Nat.le_of_ble_eq_true rfl, gw_145, rfl⟩) <| 
  mA1 rfl (⟨⟨Nat.le_of_ble_eq_true rfl, Nat.le_of_ble_eq_true rfl, Nat.le_of_ble_eq_true rfl, cal_93⟩, rfl, gw_696, gw_91, gw_92, _, rfl, rfl⟩) <| 
  mA0 rfl <| 
  mA0 rfl <| 
  mA0 rfl <| 
  mA0 rfl <| 
  mA1 rfl (Or.inr ⟨by decide, rfl⟩) <| trivial

theorem mc_27 : mAllP 27 mt_27 :=
  mA0 rfl <| 
  mA1 rfl (⟨_, rfl, Nat.le_of_ble_eq_true rfl, gw_145, rfl⟩) <| 
  mA0 rfl <| 
  mA1 rfl (⟨⟨Nat.le_of_ble_eq_true rfl, Nat.le_of_ble_eq_true rfl, Nat.le_of_ble_eq_true rfl, cal_97⟩, rfl, gw_717, gw_79, gw_80, _, rfl, rfl⟩) <| 
  mA0 rfl <| 
  mA1 rfl (⟨_, rfl, Nat.le_of_ble_eq_true rfl, gw_146, rfl⟩) <| 
  mA0 rfl <| 
  mA1 rfl (⟨⟨Nat.le_of_ble_eq_true rfl, Nat.le_of_ble_eq_true rfl, Nat.le_of_ble_eq_true rfl, cal_97⟩, rfl, gw_717, gw_79, gw_80, _, rfl, rfl⟩) <| 
  mA1 rfl (rfl) <| trivial

theorem mc_28 : mAllP 28 mt_28 :=
  mA0 rfl <| 
  mA1 rfl (⟨_, rfl, Nat.le_of_ble_eq_true rfl, gw_145, rfl⟩) <| 
  mA0 rfl <| 
  mA1 rfl (⟨⟨Nat.le_of_ble_eq_true rfl, Nat.le_of_ble_eq_true rfl, Nat.le_of_ble_eq_true rfl, cal_95⟩, rfl, gw_1033, gw_95, gw_96, _, rfl, rfl⟩) <| 
  mA1 rfl (Or.inl ⟨rfl, rfl⟩) <| trivial

theorem mc_29 : mAllP 29 mt_29 :=
  mA0 rfl <| 
  mA1 rfl (⟨_, rfl, Nat.le_of_ble_eq_true rfl, gw_146, rfl⟩) <| 
  mA0 rfl <| 
  mA1 rfl (⟨⟨Nat.le_of_ble_eq_true rfl, Nat.le_of_ble_eq_true rfl, Nat.le_of_ble_eq_true rfl, cal_95⟩, rfl, gw_1033, gw_95, gw_96, _, rfl, rfl⟩) <| 
  mA1 rfl (Or.inl ⟨rfl, rfl⟩) <| trivial

theorem mc_30 : mAllP 30 mt_30 :=
  trivial

theorem mc_31 : mAllP 31 mt_31 :=
  mA0 rfl <| 
  mA1 rfl (⟨_, rfl, Nat.le_of_ble_eq_true rfl, gw_147, rfl⟩) <| 
  mA0 rfl <| 
  mA0 rfl <| 
  mA0 rfl <| 
  mA0 rfl <| 
  mA0 rfl <| 
  mA0 rfl <| 
  mA0 rfl <| 
  mA0 rfl <| 
  mA1 rfl (⟨Nat.le_of_ble_eq_true rfl, Nat.le_of_ble_eq_true rfl⟩) <| 
  mA1 rfl (⟨_, rfl⟩) <| trivial

theorem mc_32 : mAllP 32 mt_32 :=
  mA0 rfl <| 
  mA0 rfl <| 
  mA1 rfl (⟨⟨Nat.le_of_ble_eq_true rfl, Nat.le_of_ble_eq_true rfl, Nat.le_of_ble_eq_true rfl, cal_29⟩, rfl, gw_1029, gw_1030, gw_1031, _, rfl, rfl⟩) <| 
  mA0 rfl <| 
  mA0 rfl <| 
  mA0 rfl <| 
  mA0 rfl <| 
  mA1 rfl (⟨⟨Nat.le_of_ble_eq_true rfl, Nat.le_of_ble_eq_true rfl, Nat.le_of_ble_eq_true rfl, cal_29⟩, rfl, gw_1029, gw_1030, gw_1031, _, rfl, rfl⟩) <| 
  mA0 rfl <| 
  mA0 rfl <| 
  mA0 rfl <| 
  mA0 rfl <| 
  mA0 rfl <| 
  mA1 rfl (Or.inr ⟨by decide, rfl⟩) <| 
  mA0 rfl <| 
  mA0 rfl <| 
  mA0 rfl <| 
  mA1 rfl (⟨⟨Nat.le_of_ble_eq_true rfl, Nat.le_of_ble_eq_true rfl, Nat.le_of_ble_eq_true rfl, cal_28⟩, rfl, gw_1034, gw_1035, gw_1036, _, rfl, rfl⟩) <| 
  mA1 rfl (⟨⟨Nat.le_of_ble_eq_true rfl, Nat.le_of_ble_eq_true rfl, Nat.le_of_ble_eq_true rfl, cal_31⟩, rfl, gw_1038, gw_1039, gw_1040, _, rfl, rfl⟩) <| 
  mA0 rfl <| 
  mA0 rfl <| 
  mA1 rfl (⟨⟨Nat.le_of_ble_eq_true rfl, Nat.le_of_ble_eq_true rfl, Nat.le_of_ble_eq_true rfl, cal_94⟩, rfl, gw_1042, gw_780, gw_781, _, rfl, rfl⟩) <| 
  mA0 rfl <| 
  mA0 rfl <| 
  mA0 rfl <| 
  mA1 rfl (⟨⟨Nat.le_of_ble_eq_true rfl, Nat.le_of_ble_eq_true rfl, Nat.le_of_ble_eq_true rfl, cal_28⟩, rfl, gw_1034, gw_1035, gw_1036, _, rfl, rfl⟩) <| 
  mA0 rfl <| 
  mA0 rfl <| 
  mA0 rfl <| 
  mA0 rfl <| 
  mA0 rfl <| 
  mA0 rfl <| 
  mA0 rfl <| 
  mA0 rfl <| 
  mA1 rfl (⟨⟨Nat.le_of_ble_eq_true rfl, Nat.le_of_ble_eq_true rfl, Nat.le_of_ble_eq_true rfl, cal_104⟩, rfl, gw_1043, gw_908, gw_909, _, rfl, rfl⟩) <| 
  mA1 rfl (Or.inr ⟨by decide, rfl⟩) <| trivial

theorem mc_33 : mAllP 33 mt_33 :=
  mA0 rfl <| 
  mA0 rfl <| 
  mA0 rfl <| 
  mA0 rfl <| 
  mA0 rfl <| 
  mA0 rfl <| 
  mA1 rfl (⟨_, rfl, Nat.le_of_ble_eq_true rfl, gw_145, rfl⟩) <| 
  mA1 rfl (⟨⟨Nat.le_of_ble_eq_true rfl, Nat.le_of_ble_eq_true rfl, Nat.le_of_ble_eq_true rfl, cal_93⟩, rfl, gw_696, gw_91, gw_92, _, rfl, rfl⟩) <| 
  mA0 rfl <| 
  mA0 rfl <| 
  mA0 rfl <| 
  mA0 rfl <| 
  mA0 rfl <| 
  mA1 rfl (⟨⟨Nat.le_of_ble_eq_true rfl, Nat.le_of_ble_eq_true rfl, Nat.le_of_ble_eq_true rfl, cal_32⟩, rfl, gw_1025, gw_1026, gw_1027, _, rfl, rfl⟩) <| 
  mA0 rfl <| 
  mA0 rfl <| 
  mA0 rfl <| 
  mA0 rfl <| 
  mA0 rfl <| 
  mA0 rfl <| 
  mA0 rfl <| 
  mA0 rfl <| 
  mA0 rfl <| 
  mA1 rfl (Or.inl ⟨rfl, rfl⟩) <| trivial

theorem mc_34 : mAllP 34 mt_34 :=
  mA0 rfl <| 
  mA1 rfl (⟨gw_181, gw_26, gw_27, Nat.le_of_ble_eq_true rfl, Nat.le_of_ble_eq_true rfl⟩) <| 
  mA0 rfl <| 
  mA1 rfl (⟨_, rfl, gw_182, gw_46, gw_3⟩) <| 
  mA0 rfl <| 
  mA0 rfl <| 
  mA1 rfl (⟨⟨Nat.le_of_ble_eq_true rfl, Nat.le_of_ble_eq_true rfl, Nat.le_of_ble_eq_true rfl, cal_92⟩, rfl, rfl, (fun E => ⟨(100000, 0), rfl, mNone _⟩), gw_48, rfl, Or.inl gw_183⟩) <| 
  mA1 rfl (⟨_, rfl, Nat.le_of_ble_eq_true rfl, gw_184, rfl, Or.inr ⟨rfl, ini_34, rfl⟩⟩) <| 
  mA0 rfl <| 
  mA1 rfl (⟨_, rfl, gw_182, gw_46, gw_3⟩) <| 
  mA0 rfl <| 
  mA0 rfl <| 
  mA1 rfl (⟨⟨Nat.le_of_ble_eq_true rfl, Nat.le_of_ble_eq_true rfl, Nat.le_of_ble_eq_true rfl, cal_92⟩, rfl, rfl, (fun E => ⟨(100000, 0), rfl, mNone _⟩), gw_48, rfl, Or.inl gw_183⟩) <| 
  mA1 rfl (⟨_, rfl, Nat.le_of_ble_eq_true rfl, gw_185, rfl, Or.inr ⟨rfl, ini_34, rfl⟩⟩) <| 
  mA0 rfl <| 
  mA1 rfl (⟨_, rfl, gw_182, gw_46, gw_3⟩) <| 
  mA0 rfl <| 
  mA0 rfl <| 
  mA1 rfl (⟨⟨Nat.le_of_ble_eq_true rfl, Nat.le_of_ble_eq_true rfl, Nat.le_of_ble_eq_true rfl, cal_92⟩, rfl, rfl, (fun E => ⟨(100000, 0), rfl, mNone _⟩), gw_48, rfl, Or.inl gw_183⟩) <| 
  mA1 rfl (⟨_, rfl, Nat.le_of_ble_eq_true rfl, gw_186, rfl, Or.inr ⟨rfl, ini_34, rfl⟩⟩) <| 
  mA0 rfl <| 
  mA1 rfl (⟨_, rfl, gw_182, gw_46, gw_3⟩) <| 
  mA0 rfl <| 
  mA0 rfl <| 
  mA1 rfl (⟨⟨Nat.le_of_ble_eq_true rfl, Nat.le_of_ble_eq_true rfl, Nat.le_of_ble_eq_true rfl, cal_92⟩, rfl, rfl, (fun E => ⟨(100000, 0), rfl, mNone _⟩), gw_48, rfl, Or.inl gw_183⟩) <| 
  mA1 rfl (⟨_, rfl, Nat.le_of_ble_eq_true rfl, gw_187, rfl, Or.inr ⟨rfl, ini_34, rfl⟩⟩) <| 
  mA0 rfl <| 
  mA1 rfl (⟨_, rfl, gw_182, gw_46, gw_3⟩) <| 
  mA0 rfl <| 
  mA0 rfl <| 
  mA1 rfl (⟨⟨Nat.le_of_ble_eq_true rfl, Nat.le_of_ble_eq_true rfl, Nat.le_of_ble_eq_true rfl, cal_92⟩, rfl, rfl, (fun E => ⟨(100000, 0), rfl, mNone _⟩), gw_48, rfl, Or.inl gw_183⟩) <| 
  mA1 rfl (⟨_, rfl, Nat.le_of_ble_eq_true rfl, gw_188, rfl, Or.inr ⟨rfl, ini_34, rfl⟩⟩) <| 
  mA1 rfl (rfl) <| trivial

theorem mc_35 : mAllP 35 mt_35 :=
  mA0 rfl <| 
  mA0 rfl <| 
  mA1 rfl (⟨⟨Nat.le_of_ble_eq_true rfl, Nat.le_of_ble_eq_true rfl, Nat.le_of_ble_eq_true rfl, cal_93⟩, rfl, gw_511, gw_91, gw_92, _, rfl, rfl⟩) <| 
  mA1 rfl (⟨⟨Nat.le_of_ble_eq_true rfl, Nat.le_of_ble_eq_true rfl, Nat.le_of_ble_eq_true rfl, cal_36⟩, rfl, gw_512, gw_514, gs_36, _, rfl, rfl⟩) <| 
  mA0 rfl <| 
  mA0 rfl <| 
  mA0 rfl <| 
  mA0 rfl <| 
  mA1 rfl (⟨⟨Nat.le_of_ble_eq_true rfl, Nat.le_of_ble_eq_true rfl, Nat.le_of_ble_eq_true rfl, cal_93⟩, rfl, gw_511, gw_91, gw_92, _, rfl, rfl⟩) <| 
  mA0 rfl <| 
  mA0 rfl <| 
  mA0 rfl <| 
  mA1 rfl (⟨⟨Nat.le_of_ble_eq_true rfl, Nat.le_of_ble_eq_true rfl, Nat.le_of_ble_eq_true rfl, cal_95⟩, rfl, gw_518, gw_95, gw_96, _, rfl, rfl⟩) <| 
  mA0 rfl <| 
  mA0 rfl <| 
  mA1 rfl (⟨_, rfl, Nat.le_of_ble_eq_true rfl, gw_188, rfl⟩) <| 
  mA0 rfl <| 
  mA1 rfl (⟨⟨Nat.le_of_ble_eq_true rfl, Nat.le_of_ble_eq_true rfl, Nat.le_of_ble_eq_true rfl, cal_95⟩, rfl, gw_518, gw_95, gw_96, _, rfl, rfl⟩) <| 
  mA0 rfl <| 
  mA0 rfl <| 
  mA0 rfl <| 
  mA0 rfl <| 
  mA1 rfl (⟨⟨Nat.le_of_ble_eq_true rfl, Nat.le_of_ble_eq_true rfl, Nat.le_of_ble_eq_true rfl, cal_179⟩, gw_520, Or.inr ⟨rfl, (fun E => ⟨(100000, 0), rfl, mNone _⟩), _, List.mem_of_getElem? (i := 7) rfl⟩⟩) <| 
  mA0 rfl <| 
  mA0 rfl <| 
  mA0 rfl <| 
  mA0 rfl <| 
  mA1 rfl (⟨⟨Nat.le_of_ble_eq_true rfl, Nat.le_of_ble_eq_true rfl, Nat.le_of_ble_eq_true rfl, cal_39⟩, rfl, gw_522, gw_524, gs_39, _, rfl, rfl⟩) <| 
  mA0 rfl <| 
  mA0 rfl <| 
  mA1 rfl (⟨⟨Nat.le_of_ble_eq_true rfl, Nat.le_of_ble_eq_true rfl, Nat.le_of_ble_eq_true rfl, cal_181⟩, gw_539, Or.inr ⟨rfl, (fun E => ⟨(100000, 0), rfl, mNone _⟩), _, List.mem_of_getElem? (i := 8) rfl⟩⟩) <| 
  mA0 rfl <| 
  mA0 rfl <| 
  mA0 rfl <| 
  mA1 rfl (⟨⟨Nat.le_of_ble_eq_true rfl, Nat.le_of_ble_eq_true rfl, Nat.le_of_ble_eq_true rfl, cal_108⟩, rfl, gw_541, gw_542, gw_543, _, rfl, rfl⟩) <| 
  mA0 rfl <| 
  mA0 rfl <| 
  mA0 rfl <| 
  mA0 rfl <| 
  mA0 rfl <| 
  mA1 rfl (⟨⟨Nat.le_of_ble_eq_true rfl, Nat.le_of_ble_eq_true rfl, Nat.le_of_ble_eq_true rfl, cal_40⟩, rfl, gw_545, gw_547, gs_40, _, rfl, rfl⟩) <| 
  mA0 rfl <| 
  mA0 rfl <| 
  mA0 rfl <| 
  mA0 rfl <| 
  mA0 rfl <| 
  mA1 rfl (⟨⟨Nat.le_of_ble_eq_true rfl, Nat.le_of_ble_eq_true rfl, Nat.le_of_ble_eq_true rfl, cal_41⟩, rfl, gw_559, gw_561, gs_41, _, rfl, rfl⟩) <| 
  mA0 rfl <| 
  mA0 rfl <| 
  mA1 rfl (rfl) <| trivial

theorem mc_36 : mAllP 36 mt_36 :=
  mA0 rfl <| 
  mA1 rfl (⟨_, rfl, Nat.le_of_ble_eq_true rfl, gw_184, rfl⟩) <| 
  mA1 rfl (⟨⟨Nat.le_of_ble_eq_true rfl, Nat.le_of_ble_eq_true rfl, Nat.le_of_ble_eq_true rfl, cal_100⟩, rfl, gw_516, gw_87, gw_88, _, rfl, rfl⟩) <| 
  mA0 rfl <| 
  mA1 rfl (⟨_, rfl, Nat.le_of_ble_eq_true rfl, gw_185, rfl⟩) <| 
  mA1 rfl (⟨⟨Nat.le_of_ble_eq_true rfl, Nat.le_of_ble_eq_true rfl, Nat.le_of_ble_eq_true rfl, cal_100⟩, rfl, gw_516, gw_87, gw_88, _, rfl, rfl⟩) <| 
  mA0 rfl <| 
  mA1 rfl (⟨_, rfl, Nat.le_of_ble_eq_true rfl, gw_186, rfl⟩) <| 
  mA1 rfl (⟨⟨Nat.le_of_ble_eq_true rfl, Nat.le_of_ble_eq_true rfl, Nat.le_of_ble_eq_true rfl, cal_100⟩, rfl, gw_516, gw_87, gw_88, _, rfl, rfl⟩) <| 
  mA0 rfl <| 
  mA1 rfl (⟨_, rfl, Nat.le_of_ble_eq_true rfl, gw_187, rfl⟩) <| 
  mA1 rfl (⟨⟨Nat.le_of_ble_eq_true rfl, Nat.le_of_ble_eq_true rfl, Nat.le_of_ble_eq_true rfl, cal_100⟩, rfl, gw_516, gw_87, gw_88, _, rfl, rfl⟩) <| 
  mA0 rfl <| 
  mA1 rfl (⟨_, rfl, Nat.le_of_ble_eq_true rfl, gw_188, rfl⟩) <| 
  mA1 rfl (⟨⟨Nat.le_of_ble_eq_true rfl, Nat.le_of_ble_eq_true rfl, Nat.le_of_ble_eq_true rfl, cal_100⟩, rfl, gw_516, gw_87, gw_88, _, rfl, rfl⟩) <| 
  mA0 rfl <| 
  mA0 rfl <| 
  mA0 rfl <| 
  mA0 rfl <| 
  mA0 rfl <| 
  mA0 rfl <| 
  mA1 rfl (⟨_, rfl, Nat.le_of_ble_eq_true rfl, gw_188, rfl⟩) <| 
  mA0 rfl <| 
  mA1 rfl (⟨⟨Nat.le_of_ble_eq_true rfl, Nat.le_of_ble_eq_true rfl, Nat.le_of_ble_eq_true rfl, cal_97⟩, rfl, gw_517, gw_79, gw_80, _, rfl, rfl⟩) <| 
  mA0 rfl <| 
  mA0 rfl <| 
  mA0 rfl <| 
  mA0 rfl <| 
  mA1 rfl (⟨_, rfl, Nat.le_of_ble_eq_true rfl, gw_189, rfl, Or.inl rfl⟩) <| 
  mA1 rfl (rfl) <| trivial

theorem mc_37 : mAllP 37 mt_37 :=
  mA0 rfl <| 
  mA1 rfl (⟨_, rfl, Nat.le_of_ble_eq_true rfl, gw_184, rfl⟩) <| 
  mA0 rfl <| 
  mA1 rfl (⟨⟨Nat.le_of_ble_eq_true rfl, Nat.le_of_ble_eq_true rfl, Nat.le_of_ble_eq_true rfl, cal_97⟩, rfl, gw_517, gw_79, gw_80, _, rfl, rfl⟩) <| 
  mA0 rfl <| 
  mA1 rfl (⟨_, rfl, Nat.le_of_ble_eq_true rfl, gw_185, rfl⟩) <| 
  mA0 rfl <| 
  mA1 rfl (⟨⟨Nat.le_of_ble_eq_true rfl, Nat.le_of_ble_eq_true rfl, Nat.le_of_ble_eq_true rfl, cal_97⟩, rfl, gw_517, gw_79, gw_80, _, rfl, rfl⟩) <| 
  mA0 rfl <| 
  mA1 rfl (⟨_, rfl, Nat.le_of_ble_eq_true rfl, gw_186, rfl⟩) <| 
  mA0 rfl <| 
  mA1 rfl (⟨⟨Nat.le_of_ble_eq_true rfl, Nat.le_of_ble_eq_true rfl, Nat.le_of_ble_eq_true rfl, cal_97⟩, rfl, gw_517, gw_79, gw_80, _, rfl, rfl⟩) <| 
  mA0 rfl <| 
  mA1 rfl (⟨_, rfl, Nat.le_of_ble_eq_true rfl, gw_187, rfl⟩) <| 
  mA0 rfl <| 
  mA1 rfl (⟨_, rfl, Nat.le_of_ble_eq_true rfl, gw_189, rfl⟩) <| 
  mA1 rfl (⟨⟨Nat.le_of_ble_eq_true rfl, Nat.le_of_ble_eq_true rfl, Nat.le_of_ble_eq_true rfl, cal_97⟩, rfl, gw_517, gw_79, gw_80, _, rfl, rfl⟩) <| 
  mA1 rfl (rfl) <| trivial

theorem mc_38 : mAllP 38 mt_38 :=
  mA0 rfl <| 
  mA0 rfl <| 
  mA0 rfl <| 
  mA0 rfl <| 
  mA0 rfl <| 
  mA0 rfl <| 
  mA1 rfl (⟨_, rfl, Nat.le_of_ble_eq_true rfl, gw_188, rfl⟩) <| 
  mA0 rfl <| 
  mA0 rfl <| 
  mA1 rfl (⟨⟨Nat.le_of_ble_eq_true rfl, Nat.le_of_ble_eq_true rfl, Nat.le_of_ble_eq_true rfl, cal_96⟩, rfl, gw_530, gw_531, gw_532, _, rfl, rfl⟩) <| 
  mA0 rfl <| 
  mA0 rfl <| 
  mA1 rfl (rfl) <| trivial

theorem mc_39 : mAllP 39 mt_39 :=
  mA0 rfl <| 
  mA0 rfl <| 
  mA1 rfl (⟨_, rfl, Nat.le_of_ble_eq_true rfl, gw_189, rfl⟩) <| 
  mA0 rfl <| 
  mA0 rfl <| 
  mA0 rfl <| 
  mA0 rfl <| 
  mA1 rfl (⟨_, rfl, Nat.le_of_ble_eq_true rfl, gw_189, rfl, Or.inl rfl⟩) <| 
  mA0 rfl <| 
  mA0 rfl <| 
  mA0 rfl <| 
  mA0 rfl <| 
  mA0 rfl <| 
  mA0 rfl <| 
  mA1 rfl (⟨⟨Nat.le_of_ble_eq_true rfl, Nat.le_of_ble_eq_true rfl, Nat.le_of_ble_eq_true rfl, cal_38⟩, rfl, gw_526, gw_528, gs_38, _, rfl, rfl⟩) <| 
  mA0 rfl <| 
  mA0 rfl <| 
  mA0 rfl <| 
  mA0 rfl <| 
  mA0 rfl <| 
  mA0 rfl <| 
  mA0 rfl <| 
  mA0 rfl <| 
  mA1 rfl (⟨⟨Nat.le_of_ble_eq_true rfl, Nat.le_of_ble_eq_true rfl, Nat.le_of_ble_eq_true rfl, cal_37⟩, rfl, gw_534, gw_535, gw_536, _, rfl, rfl⟩) <| 
  mA1 rfl (rfl) <| trivial

theorem mc_40 : mAllP 40 mt_40 :=
  mA0 rfl <| 
  mA0 rfl <| 
  mA1 rfl (⟨_, rfl, Nat.le_of_ble_eq_true rfl, gw_189, rfl, Or.inl rfl⟩) <| 
  mA0 rfl <| 
  mA0 rfl <| 
  mA0 rfl <| 
  mA0 rfl <| 
  mA1 rfl (⟨⟨Nat.le_of_ble_eq_true rfl, Nat.le_of_ble_eq_true rfl, Nat.le_of_ble_eq_true rfl, cal_93⟩, rfl, gw_511, gw_91, gw_92, _, rfl, rfl⟩) <| 
  mA0 rfl <| 
  mA0 rfl <| 
  mA0 rfl <| 
  mA1 rfl (⟨⟨Nat.le_of_ble_eq_true rfl, Nat.le_of_ble_eq_true rfl, Nat.le_of_ble_eq_true rfl, cal_95⟩, rfl, gw_518, gw_95, gw_96, _, rfl, rfl⟩) <| 
  mA1 rfl (⟨⟨Nat.le_of_ble_eq_true rfl, Nat.le_of_ble_eq_true rfl, Nat.le_of_ble_eq_true rfl, cal_181⟩, gw_539, Or.inr ⟨rfl, (fun E => ⟨(100000, 0), rfl, mNone _⟩), _, List.mem_of_getElem? (i := 8) rfl⟩⟩) <| 
  mA0 rfl <| 
  mA0 rfl <| 
  mA0 rfl <| 
  mA0 rfl <| 
  mA0 rfl <| 
  mA0 rfl <| 
  mA0 rfl <| 
  mA1 rfl (⟨⟨Nat.le_of_ble_eq_true rfl, Nat.le_of_ble_eq_true rfl, Nat.le_of_ble_eq_true rfl, cal_38⟩, rfl, gw_526, gw_528, gs_38, _, rfl, rfl⟩) <| 
  mA0 rfl <| 
  mA0 rfl <| 
  mA0 rfl <| 
  mA0 rfl <| 
  mA0 rfl <| 
  mA0 rfl <| 
  mA0 rfl <| 
  mA0 rfl <| 
  mA0 rfl <| 
  mA1 rfl (⟨⟨Nat.le_of_ble_eq_true rfl, Nat.le_of_ble_eq_true rfl, Nat.le_of_ble_eq_true rfl, cal_95⟩, rfl, gw_518, gw_95, gw_96, _, rfl, rfl⟩) <| 
  mA0 rfl <| 
  mA0 rfl <| 
  mA0 rfl <| 
  mA0 rfl <| 
  mA0 rfl <| 
  mA0 rfl <| 
  mA0 rfl <| 
  mA1 rfl (⟨⟨Nat.le_of_ble_eq_true rfl, Nat.le_of_ble_eq_true rfl, Nat.le_of_ble_eq_true rfl, cal_185⟩, gw_76, Or.inr ⟨rfl, (fun E => ⟨(100000, 0), rfl, mNone _⟩), _, List.mem_of_getElem? (i := 9) rfl⟩⟩) <| 
  mA1 rfl (⟨⟨Nat.le_of_ble_eq_true rfl, Nat.le_of_ble_eq_true rfl, Nat.le_of_ble_eq_true rfl, cal_114⟩, rfl, gw_550, gw_551, gw_552, _, rfl, rfl⟩) <| 
  mA0 rfl <| 
  mA0 rfl <| 
  mA1 rfl (⟨⟨Nat.le_of_ble_eq_true rfl, Nat.le_of_ble_eq_true rfl, Nat.le_of_ble_eq_true rfl, cal_37⟩, rfl, gw_534, gw_535, gw_536, _, rfl, rfl⟩) <| 
  mA0 rfl <| 
  mA0 rfl <| 
  mA0 rfl <| 
  mA0 rfl <| 
  mA0 rfl <| 
  mA0 rfl <| 
  mA1 rfl (⟨⟨Nat.le_of_ble_eq_true rfl, Nat.le_of_ble_eq_true rfl, Nat.le_of_ble_eq_true rfl, cal_37⟩, rfl, gw_534, gw_535, gw_536, _, rfl, rfl⟩) <| 
  mA0 rfl <| 
  mA0 rfl <| 
  mA0 rfl <| 
  mA0 rfl <| 
  mA0 rfl <| 
  mA0 rfl <| 
  mA0 rfl <| 
  mA0 rfl <| 
  mA1 rfl (⟨⟨Nat.le_of_ble_eq_true rfl, Nat.le_of_ble_eq_true rfl, Nat.le_of_ble_eq_true rfl, cal_95⟩, rfl, gw_518, gw_95, gw_96, _, rfl, rfl⟩) <| 
  mA0 rfl <| 
  mA0 rfl <| 
  mA0 rfl <| 
  mA0 rfl <| 
  mA0 rfl <| 
  mA0 rfl <| 
  mA1 rfl (⟨⟨Nat.le_of_ble_eq_true rfl, Nat.le_of_ble_eq_true rfl, Nat.le_of_ble_eq_true rfl, cal_37⟩, rfl, gw_534, gw_535, gw_536, _, rfl, rfl⟩) <| 
  mA0 rfl <| 
  mA0 rfl <| 
  mA1 rfl (rfl) <| trivial

theorem mc_41 : mAllP 41 mt_41 :=
  mA0 rfl <| 
  mA0 rfl <| 
  mA0 rfl <| 
  mA1 rfl (⟨⟨Nat.le_of_ble_eq_true rfl, Nat.le_of_ble_eq_true rfl, Nat.le_of_ble_eq_true rfl, cal_95⟩, rfl, gw_518, gw_95, gw_96, _, rfl, rfl⟩) <| 
  mA1 rfl (⟨⟨Nat.le_of_ble_eq_true rfl, Nat.le_of_ble_eq_true rfl, Nat.le_of_ble_eq_true rfl, cal_180⟩, gw_564, Or.inr ⟨rfl, (fun E => ⟨(100000, 0), rfl, mNone _⟩), _, List.mem_of_getElem? (i := 10) rfl⟩⟩) <| 
  mA0 rfl <| 
  mA0 rfl <| 
  mA0 rfl <| 
  mA0 rfl <| 
  mA1 rfl (⟨_, rfl, Nat.le_of_ble_eq_true rfl, gw_189, rfl, Or.inl rfl⟩) <| 
  mA0 rfl <| 
  mA0 rfl <| 
  mA0 rfl <| 
  mA0 rfl <| 
  mA0 rfl <| 
  mA0 rfl <| 
  mA0 rfl <| 
  mA0 rfl <| 
  mA0 rfl <| 
  mA0 rfl <| 
  mA0 rfl <| 
  mA1 rfl (⟨⟨Nat.le_of_ble_eq_true rfl, Nat.le_of_ble_eq_true rfl, Nat.le_of_ble_eq_true rfl, cal_184⟩, gw_567, Or.inr ⟨rfl, (fun E => ⟨(100000, 0), rfl, mNone _⟩), _, List.mem_of_getElem? (i := 11) rfl⟩⟩) <| 
  mA1 rfl (⟨⟨Nat.le_of_ble_eq_true rfl, Nat.le_of_ble_eq_true rfl, Nat.le_of_ble_eq_true rfl, cal_113⟩, rfl, gw_570, gw_571, gw_572, _, rfl, rfl⟩) <| 
  mA0 rfl <| 
  mA0 rfl <| 
  mA0 rfl <| 
  mA0 rfl <| 
  mA0 rfl <| 
  mA0 rfl <| 
  mA0 rfl <| 
  mA0 rfl <| 
  mA0 rfl <| 
  mA1 rfl (⟨⟨Nat.le_of_ble_eq_true rfl, Nat.le_of_ble_eq_true rfl, Nat.le_of_ble_eq_true rfl, cal_38⟩, rfl, gw_526, gw_528, gs_38, _, rfl, rfl⟩) <| 
  mA0 rfl <| 
  mA0 rfl <| 
  mA0 rfl <| 
  mA0 rfl <| 
  mA0 rfl <| 
  mA0 rfl <| 
  mA1 rfl (⟨⟨Nat.le_of_ble_eq_true rfl, Nat.le_of_ble_eq_true rfl, Nat.le_of_ble_eq_true rfl, cal_42⟩, rfl, gw_574, gw_576, gs_42, _, rfl, rfl⟩) <| 
  mA0 rfl <| 
  mA1 rfl (⟨⟨Nat.le_of_ble_eq_true rfl, Nat.le_of_ble_eq_true rfl, Nat.le_of_ble_eq_true rfl, cal_115⟩, rfl, gw_585, gw_586, gw_587, _, rfl, rfl⟩) <| 
  mA1 rfl (rfl) <| trivial

theorem mc_42 : mAllP 42 mt_42 :=
  mA0 rfl <| 
  mA0 rfl <| 
  mA0 rfl <| 
  mA0 rfl <| 
  mA0 rfl <| 
  mA1 rfl (⟨⟨Nat.le_of_ble_eq_true rfl, Nat.le_of_ble_eq_true rfl, Nat.le_of_ble_eq_true rfl, cal_184⟩, gw_567, Or.inr ⟨rfl, (fun E => ⟨(100000, 0), rfl, mNone _⟩), _, List.mem_of_getElem? (i := 11) rfl⟩⟩) <| 
  mA0 rfl <| 
  mA0 rfl <| 
  mA0 rfl <| 
  mA0 rfl <| 
  mA0 rfl <| 
  mA0 rfl <| 
  mA0 rfl <| 
  mA0 rfl <| 
  mA0 rfl <| 
  mA1 rfl (⟨⟨Nat.le_of_ble_eq_true rfl, Nat.le_of_ble_eq_true rfl, Nat.le_of_ble_eq_true rfl, cal_93⟩, rfl, gw_511, gw_91, gw_92, _, rfl, rfl⟩) <| 
  mA0 rfl <| 
  mA0 rfl <| 
  mA0 rfl <| 
  mA1 rfl (⟨⟨Nat.le_of_ble_eq_true rfl, Nat.le_of_ble_eq_true rfl, Nat.le_of_ble_eq_true rfl, cal_95⟩, rfl, gw_518, gw_95, gw_96, _, rfl, rfl⟩) <| 
  mA1 rfl (⟨⟨Nat.le_of_ble_eq_true rfl, Nat.le_of_ble_eq_true rfl, Nat.le_of_ble_eq_true rfl, cal_179⟩, gw_520, Or.inr ⟨rfl, (fun E => ⟨(100000, 0), rfl, mNone _⟩), _, List.mem_of_getElem? (i := 7) rfl⟩⟩) <| 
  mA0 rfl <| 
  mA0 rfl <| 
  mA0 rfl <| 
  mA0 rfl <| 
  mA0 rfl <| 
  mA0 rfl <| 
  mA1 rfl (⟨⟨Nat.le_of_ble_eq_true rfl, Nat.le_of_ble_eq_true rfl, Nat.le_of_ble_eq_true rfl, cal_95⟩, rfl, gw_518, gw_95, gw_96, _, rfl, rfl⟩) <| 
  mA1 rfl (⟨⟨Nat.le_of_ble_eq_true rfl, Nat.le_of_ble_eq_true rfl, Nat.le_of_ble_eq_true rfl, cal_185⟩, gw_76, Or.inr ⟨rfl, (fun E => ⟨(100000, 0), rfl, mNone _⟩), _, List.mem_of_getElem? (i := 9) rfl⟩⟩) <| 
  mA0 rfl <| 
  mA0 rfl <| 
  mA0 rfl <| 
  mA0 rfl <| 
  mA1 rfl (⟨⟨Nat.le_of_ble_eq_true rfl, Nat.le_of_ble_eq_true rfl, Nat.le_of_ble_eq_true rfl, cal_95⟩, rfl, gw_518, gw_95, gw_96, _, rfl, rfl⟩) <| 
  mA1 rfl (⟨⟨Nat.le_of_ble_eq_true rfl, Nat.le_of_ble_eq_true rfl, Nat.le_of_ble_eq_true rfl, cal_182⟩, gw_579, Or.inr ⟨rfl, (fun E => ⟨(100000, 0), rfl, mNone _⟩), _, List.mem_of_getElem? (i := 12) rfl⟩⟩) <| 
  mA0 rfl <| 
  mA0 rfl <| 
  mA0 rfl <| 
  mA0 rfl <| 
  mA1 rfl (⟨⟨Nat.le_of_ble_eq_true rfl, Nat.le_of_ble_eq_true rfl, Nat.le_of_ble_eq_true rfl, cal_113⟩, rfl, gw_570, gw_571, gw_572, _, rfl, rfl⟩) <| 
  mA0 rfl <| 
  mA0 rfl <| 
  mA0 rfl <| 
  mA0 rfl <| 
  mA0 rfl <| 
  mA0 rfl <| 
  mA0 rfl <| 
  mA1 rfl (⟨⟨Nat.le_of_ble_eq_true rfl, Nat.le_of_ble_eq_true rfl, Nat.le_of_ble_eq_true rfl, cal_38⟩, rfl, gw_526, gw_528, gs_38, _, rfl, rfl⟩) <| 
  mA0 rfl <| 
  mA0 rfl <| 
  mA0 rfl <| 
  mA0 rfl <| 
  mA0 rfl <| 
  mA0 rfl <| 
  mA1 rfl (⟨⟨Nat.le_of_ble_eq_true rfl, Nat.le_of_ble_eq_true rfl, Nat.le_of_ble_eq_true rfl, cal_95⟩, rfl, gw_518, gw_95, gw_96, _, rfl, rfl⟩) <| 
  mA1 rfl (⟨⟨Nat.le_of_ble_eq_true rfl, Nat.le_of_ble_eq_true rfl, Nat.le_of_ble_eq_true rfl, cal_182⟩, gw_579, Or.inr ⟨rfl, (fun E => ⟨(100000, 0), rfl, mNone _⟩), _, List.mem_of_getElem? (i := 12) rfl⟩⟩) <| 
  mA1 rfl (⟨⟨Nat.le_of_ble_eq_true rfl, Nat.le_of_ble_eq_true rfl, Nat.le_of_ble_eq_true rfl, cal_329⟩, gw_52, Or.inl gw_584⟩) <| 
  mA0 rfl <| 
  mA0 rfl <| 
  mA0 rfl <| 
  mA0 rfl <| 
  mA1 rfl (Or.inl ⟨rfl, rfl⟩) <| trivial

theorem mc_43 : mAllP 43 mt_43 :=
  trivial

theorem mc_44 : mAllP 44 mt_44 :=
  trivial

theorem mc_45 : mAllP 45 mt_45 :=
  mA0 rfl <| 
  mA1 rfl (⟨⟨Nat.le_of_ble_eq_true rfl, Nat.le_of_ble_eq_true rfl, Nat.le_of_ble_eq_true rfl, cal_100⟩, rfl, gw_516, gw_87, gw_88, _, rfl, rfl⟩) <| 
  mA0 rfl <| 
  mA0 rfl <| 
  mA1 rfl (⟨⟨Nat.le_of_ble_eq_true rfl, Nat.le_of_ble_eq_true rfl, Nat.le_of_ble_eq_true rfl, cal_108⟩, rfl, gw_541, gw_542, gw_543, _, rfl, rfl⟩) <| 
  mA0 rfl <| 
  mA0 rfl <| 
  mA0 rfl <| 
  mA0 rfl <| 
  mA0 rfl <| 
  mA0 rfl <| 
  mA1 rfl (⟨⟨Nat.le_of_ble_eq_true rfl, Nat.le_of_ble_eq_true rfl, Nat.le_of_ble_eq_true rfl, cal_108⟩, rfl, gw_541, gw_542, gw_543, _, rfl, rfl⟩) <| 
  mA0 rfl <| 
  mA0 rfl <| 
  mA0 rfl <| 
  mA0 rfl <| 
  mA0 rfl <| 
  mA0 rfl <| 
  mA1 rfl (⟨_, rfl, Nat.le_of_ble_eq_true rfl, gw_184, rfl⟩) <| 
  mA1 rfl (⟨⟨Nat.le_of_ble_eq_true rfl, Nat.le_of_ble_eq_true rfl, Nat.le_of_ble_eq_true rfl, cal_93⟩, rfl, gw_511, gw_91, gw_92, _, rfl, rfl⟩) <| 
  mA0 rfl <| 
  mA0 rfl <| 
  mA0 rfl <| 
  mA0 rfl <| 
  mA0 rfl <| 
  mA0 rfl <| 
  mA0 rfl <| 
  mA0 rfl <| 
  mA0 rfl <| 
  mA0 rfl <| 
  mA0 rfl <| 
  mA0 rfl <| 
  mA0 rfl <| 
  mA0 rfl <| 
  mA0 rfl <| 
  mA0 rfl <| 
  mA0 rfl <| 
  mA0 rfl <| 
  mA0 rfl <| 
  mA0 rfl <| 
  mA0 rfl <| 
  mA0 rfl <| 
  mA1 rfl (⟨⟨Nat.le_of_ble_eq_true rfl, Nat.le_of_ble_eq_true rfl, Nat.le_of_ble_eq_true rfl, cal_47⟩, rfl, gw_602, gw_604, gs_47, _, rfl, rfl⟩) <| 
  mA0 rfl <| 
  mA0 rfl <| 
  mA0 rfl <| 
  mA0 rfl <| 
  mA0 rfl <| 
  mA1 rfl (⟨⟨Nat.le_of_ble_eq_true rfl, Nat.le_of_ble_eq_true rfl, Nat.le_of_ble_eq_true rfl, cal_46⟩, rfl, gw_606, gw_608, gs_46, _, rfl, rfl⟩) <| 
  mA0 rfl <| 
  mA0 rfl <| 
  mA0 rfl <| 
  mA0 rfl <| 
  mA0 rfl <| 
  mA1 rfl (⟨⟨Nat.le_of_ble_eq_true rfl, Nat.le_of_ble_eq_true rfl, Nat.le_of_ble_eq_true rfl, cal_97⟩, rfl, gw_517, gw_79, gw_80, _, rfl, rfl⟩) <| 
  mA0 rfl <| 
  mA0 rfl <| 
  mA1 rfl (rfl) <| trivial

theorem mc_46 : mAllP 46 mt_46 :=
  mA0 rfl <| 
  mA0 rfl <| 
  mA0 rfl <| 
  mA1 rfl (⟨_, rfl, Nat.le_of_ble_eq_true rfl, gw_187, rfl⟩) <| 
  mA0 rfl <| 
  mA1 rfl (⟨⟨Nat.le_of_ble_eq_true rfl, Nat.le_of_ble_eq_true rfl, Nat.le_of_ble_eq_true rfl, cal_95⟩, rfl, gw_518, gw_95, gw_96, _, rfl, rfl⟩) <| 
  mA0 rfl <| 
  mA0 rfl <| 
  mA1 rfl (Or.inl ⟨rfl, rfl⟩) <| 
  mA0 rfl <| 
  mA0 rfl <| 
  mA0 rfl <| 
  mA0 rfl <| 
  mA1 rfl (⟨_, rfl, Nat.le_of_ble_eq_true rfl, gw_184, rfl⟩) <| 
  mA0 rfl <| 
  mA1 rfl (⟨⟨Nat.le_of_ble_eq_true rfl, Nat.le_of_ble_eq_true rfl, Nat.le_of_ble_eq_true rfl, cal_95⟩, rfl, gw_518, gw_95, gw_96, _, rfl, rfl⟩) <| 
  mA0 rfl <| 
  mA0 rfl <| 
  mA0 rfl <| 
  mA0 rfl <| 
  mA0 rfl <| 
  mA1 rfl (⟨_, rfl, Nat.le_of_ble_eq_true rfl, gw_185, rfl⟩) <| 
  mA0 rfl <| 
  mA1 rfl (⟨⟨Nat.le_of_ble_eq_true rfl, Nat.le_of_ble_eq_true rfl, Nat.le_of_ble_eq_true rfl, cal_95⟩, rfl, gw_518, gw_95, gw_96, _, rfl, rfl⟩) <| 
  mA0 rfl <| 
  mA0 rfl <| 
  mA1 rfl (⟨_, rfl, Nat.le_of_ble_eq_true rfl, gw_186, rfl⟩) <| 
  mA0 rfl <| 
  mA1 rfl (⟨⟨Nat.le_of_ble_eq_true rfl, Nat.le_of_ble_eq_true rfl, Nat.le_of_ble_eq_true rfl, cal_95⟩, rfl, gw_518, gw_95, gw_96, _, rfl, rfl⟩) <| 
  mA1 rfl (Or.inl ⟨rfl, rfl⟩) <| trivial

theorem mc_47 : mAllP 47 mt_47 :=
  mA0 rfl <| 
  mA0 rfl <| 
  mA0 rfl <| 
  mA1 rfl (⟨_, rfl, Nat.le_of_ble_eq_true rfl, gw_187, rfl⟩) <| 
  mA0 rfl <| 
  mA1 rfl (⟨⟨Nat.le_of_ble_eq_true rfl, Nat.le_of_ble_eq_true rfl, Nat.le_of_ble_eq_true rfl, cal_95⟩, rfl, gw_518, gw_95, gw_96, _, rfl, rfl⟩) <| 
  mA0 rfl <| 
  mA0 rfl <| 
  mA0 rfl <| 
  mA1 rfl (Or.inl ⟨rfl, rfl⟩) <| 
  mA0 rfl <| 
  mA1 rfl (⟨_, rfl, Nat.le_of_ble_eq_true rfl, gw_187, rfl⟩) <| 
  mA0 rfl <| 
  mA1 rfl (⟨⟨Nat.le_of_ble_eq_true rfl, Nat.le_of_ble_eq_true rfl, Nat.le_of_ble_eq_true rfl, cal_95⟩, rfl, gw_518, gw_95, gw_96, _, rfl, rfl⟩) <| 
  mA0 rfl <| 
  mA0 rfl <| 
  mA0 rfl <| 
  mA1 rfl (⟨_, rfl, Nat.le_of_ble_eq_true rfl, gw_184, rfl⟩) <| 
  mA0 rfl <| 
  mA1 rfl (⟨⟨Nat.le_of_ble_eq_true rfl, Nat.le_of_ble_eq_true rfl, Nat.le_of_ble_eq_true rfl, cal_95⟩, rfl, gw_518, gw_95, gw_96, _, rfl, rfl⟩) <| 
  mA0 rfl <| 
  mA0 rfl <| 
  mA1 rfl (Or.inl ⟨rfl, rfl⟩) <| trivial

theorem mc_48 : mAllP 48 mt_48 :=
  mA0 rfl <| 
  mA1 rfl (⟨gw_269, gw_26, gw_27, Nat.le_of_ble_eq_true rfl, Nat.le_of_ble_eq_true rfl⟩) <| 
  mA0 rfl <| 
  mA0 rfl <| 
  mA1 rfl (⟨_, rfl, Nat.le_of_ble_eq_true rfl, gw_273, rfl, Or.inl rfl⟩) <| 
  mA0 rfl <| 
  mA1 rfl (⟨_, rfl, gw_270, gw_46, gw_3⟩) <| 
  mA0 rfl <| 
  mA0 rfl <| 
  mA1 rfl (⟨⟨Nat.le_of_ble_eq_true rfl, Nat.le_of_ble_eq_true rfl, Nat.le_of_ble_eq_true rfl, cal_92⟩, rfl, rfl, (fun E => ⟨(100000, 0), rfl, mNone _⟩), gw_48, rfl, Or.inl gw_271⟩) <| 
  mA1 rfl (⟨_, rfl, Nat.le_of_ble_eq_true rfl, gw_277, rfl, Or.inr ⟨rfl, ini_48, rfl⟩⟩) <| 
  mA0 rfl <| 
  mA1 rfl (⟨_, rfl, gw_270, gw_46, gw_3⟩) <| 
  mA0 rfl <| 
  mA0 rfl <| 
  mA1 rfl (⟨⟨Nat.le_of_ble_eq_true rfl, Nat.le_of_ble_eq_true rfl, Nat.le_of_ble_eq_true rfl, cal_92⟩, rfl, rfl, (fun E => ⟨(100000, 0), rfl, mNone _⟩), gw_48, rfl, Or.inl gw_271⟩) <| 
  mA1 rfl (⟨_, rfl, Nat.le_of_ble_eq_true rfl, gw_278, rfl, Or.inr ⟨rfl, ini_48, rfl⟩⟩) <| 
  mA0 rfl <| 
  mA0 rfl <| 
  mA1 rfl (⟨_, rfl, Nat.le_of_ble_eq_true rfl, gw_279, rfl, Or.inl rfl⟩) <| 
  mA1 rfl (rfl) <| trivial

theorem mc_49 : mAllP 49 mt_49 :=
  mA0 rfl <| 
  mA0 rfl <| 
  mA1 rfl (⟨_, rfl, Nat.le_of_ble_eq_true rfl, gw_272, rfl, Or.inl rfl⟩) <| 
  mA0 rfl <| 
  mA0 rfl <| 
  mA1 rfl (⟨_, rfl, Nat.le_of_ble_eq_true rfl, gw_273, rfl, Or.inl rfl⟩) <| 
  mA0 rfl <| 
  mA0 rfl <| 
  mA1 rfl (⟨_, rfl, Nat.le_of_ble_eq_true rfl, gw_274, rfl, Or.inl rfl⟩) <| 
  mA1 rfl (rfl) <| trivial

theorem mc_50 : mAllP 50 mt_50 :=
  mA0 rfl <| 
  mA1 rfl (⟨_, rfl, Nat.le_of_ble_eq_true rfl, gw_272, rfl⟩) <| 
  mA1 rfl (Or.inl ⟨rfl, rfl⟩) <| trivial

theorem mc_51 : mAllP 51 mt_51 :=
  mA0 rfl <| 
  mA1 rfl (⟨_, rfl, Nat.le_of_ble_eq_true rfl, gw_273, rfl⟩) <| 
  mA1 rfl (Or.inl ⟨rfl, rfl⟩) <| trivial

theorem mc_52 : mAllP 52 mt_52 :=
  mA0 rfl <| 
  mA1 rfl (⟨_, rfl, Nat.le_of_ble_eq_true rfl, gw_273, rfl⟩) <| 
  mA0 rfl <| 
  mA0 rfl <| 
  mA0 rfl <| 
  mA0 rfl <| 
  mA0 rfl <| 
  mA1 rfl (Or.inr ⟨by decide, rfl⟩) <| trivial

theorem mc_53 : mAllP 53 mt_53 :=
  mA0 rfl <| 
  mA1 rfl (⟨_, rfl, Nat.le_of_ble_eq_true rfl, gw_274, rfl⟩) <| 
  mA1 rfl (Or.inl ⟨rfl, rfl⟩) <| trivial

theorem mc_54 : mAllP 54 mt_54 :=
  mA0 rfl <| 
  mA1 rfl (⟨_, rfl, Nat.le_of_ble_eq_true rfl, gw_274, rfl⟩) <| 
  mA0 rfl <| 
  mA0 rfl <| 
  mA0 rfl <| 
  mA0 rfl <| 
  mA0 rfl <| 
  mA0 rfl <| 
  mA0 rfl <| 
  mA0 rfl <| 
  mA0 rfl <| 
  mA1 rfl (Or.inr ⟨by decide, rfl⟩) <| trivial

theorem mc_55 : mAllP 55 mt_55 :=
  mA0 rfl <| 
  mA1 rfl (⟨_, rfl, Nat.le_of_ble_eq_true rfl, gw_275, rfl⟩) <| 
  mA1 rfl (Or.inl ⟨rfl, rfl⟩) <| trivial

theorem mc_56 : mAllP 56 mt_56 :=
  mA0 rfl <| 
  mA1 rfl (⟨_, rfl, Nat.le_of_ble_eq_true rfl, gw_276, rfl⟩) <| 
  mA1 rfl (Or.inl ⟨rfl, rfl⟩) <| trivial

theorem mc_57 : mAllP 57 mt_57 :=
  mA0 rfl <| 
  mA1 rfl (⟨_, rfl, Nat.le_of_ble_eq_true rfl, gw_275, rfl⟩) <| 
  mA0 rfl <| 
  mA0 rfl <| 
  mA0 rfl <| 
  mA0 rfl <| 
  mA0 rfl <| 
  mA1 rfl (Or.inr ⟨by decide, rfl⟩) <| trivial

theorem mc_58 : mAllP 58 mt_58 :=
  mA0 rfl <| 
  mA0 rfl <| 
  mA1 rfl (⟨_, rfl, Nat.le_of_ble_eq_true rfl, gw_275, rfl, Or.inl rfl⟩) <| 
  mA0 rfl <| 
  mA0 rfl <| 
  mA1 rfl (⟨_, rfl, Nat.le_of_ble_eq_true rfl, gw_276, rfl, Or.inl rfl⟩) <| 
  mA1 rfl (rfl) <| trivial

theorem mc_59 : mAllP 59 mt_59 :=
  mA0 rfl <| 
  mA1 rfl (⟨_, rfl, Nat.le_of_ble_eq_true rfl, gw_277, rfl⟩) <| 
  mA1 rfl (⟨_, rfl⟩) <| trivial

theorem mc_60 : mAllP 60 mt_60 :=
  mA0 rfl <| 
  mA0 rfl <| 
  mA0 rfl <| 
  mA0 rfl <| 
  mA0 rfl <| 
  mA0 rfl <| 
  mA0 rfl <| 
  mA0 rfl <| 
  mA1 rfl (Or.inl ⟨rfl, rfl⟩) <| trivial

theorem mc_61 : mAllP 61 mt_61 :=
  mA0 rfl <| 
  mA0 rfl <| 
  mA1 rfl (⟨⟨Nat.le_of_ble_eq_true rfl, Nat.le_of_ble_eq_true rfl, Nat.le_of_ble_eq_true rfl, cal_60⟩, gw_996, Or.inl gw_995⟩) <| 
  mA0 rfl <| 
  mA0 rfl <| 
  mA0 rfl <| 
  mA1 rfl (Or.inl ⟨rfl, rfl⟩) <| trivial

theorem mc_62 : mAllP 62 mt_62 :=
  mA0 rfl <| 
  mA0 rfl <| 
  mA0 rfl <| 
  mA1 rfl (Or.inl ⟨rfl, rfl⟩) <| trivial

theorem mc_63 : mAllP 63 mt_63 :=
  mA0 rfl <| 
  mA0 rfl <| 
  mA0 rfl <| 
  mA1 rfl (⟨⟨Nat.le_of_ble_eq_true rfl, Nat.le_of_ble_eq_true rfl, Nat.le_of_ble_eq_true rfl, cal_60⟩, gw_996, Or.inl gw_995⟩) <| 
  mA1 rfl (Or.inl ⟨rfl, rfl⟩) <| trivial

theorem mc_64 : mAllP 64 mt_64 :=
  mA0 rfl <| 
  mA1 rfl (⟨_, rfl, Nat.le_of_ble_eq_true rfl, gw_277, rfl⟩) <| 
  mA0 rfl <| 
  mA0 rfl <| 
  mA1 rfl (⟨⟨Nat.le_of_ble_eq_true rfl, Nat.le_of_ble_eq_true rfl, Nat.le_of_ble_eq_true rfl, cal_61⟩, gw_993, Or.inl gw_992⟩) <| 
  mA1 rfl (⟨⟨Nat.le_of_ble_eq_true rfl, Nat.le_of_ble_eq_true rfl, Nat.le_of_ble_eq_true rfl, cal_104⟩, rfl, gw_998, gw_908, gw_909, _, rfl, rfl⟩) <| 
  mA1 rfl (Or.inr ⟨by decide, rfl⟩) <| trivial

theorem mc_65 : mAllP 65 mt_65 :=
  mA0 rfl <| 
  mA0 rfl <| 
  mA1 rfl (⟨⟨Nat.le_of_ble_eq_true rfl, Nat.le_of_ble_eq_true rfl, Nat.le_of_ble_eq_true rfl, cal_61⟩, gw_993, Or.inl gw_992⟩) <| 
  mA0 rfl <| 
  mA0 rfl <| 
  mA1 rfl (⟨_, rfl, Nat.le_of_ble_eq_true rfl, gw_277, rfl⟩) <| 
  mA1 rfl (⟨⟨Nat.le_of_ble_eq_true rfl, Nat.le_of_ble_eq_true rfl, Nat.le_of_ble_eq_true rfl, cal_93⟩, rfl, gw_1004, gw_91, gw_92, _, rfl, rfl⟩) <| 
  mA0 rfl <| 
  mA0 rfl <| 
  mA0 rfl <| 
  mA0 rfl <| 
  mA1 rfl (⟨_, rfl, Nat.le_of_ble_eq_true rfl, gw_277, rfl⟩) <| 
  mA0 rfl <| 
  mA0 rfl <| 
  mA0 rfl <| 
  mA1 rfl (⟨⟨Nat.le_of_ble_eq_true rfl, Nat.le_of_ble_eq_true rfl, Nat.le_of_ble_eq_true rfl, cal_95⟩, rfl, gw_1005, gw_95, gw_96, _, rfl, rfl⟩) <| 
  mA0 rfl <| 
  mA0 rfl <| 
  mA0 rfl <| 
  mA0 rfl <| 
  mA0 rfl <| 
  mA1 rfl (⟨_, rfl, Nat.le_of_ble_eq_true rfl, gw_277, rfl⟩) <| 
  mA0 rfl <| 
  mA0 rfl <| 
  mA1 rfl (⟨⟨Nat.le_of_ble_eq_true rfl, Nat.le_of_ble_eq_true rfl, Nat.le_of_ble_eq_true rfl, cal_98⟩, rfl, gw_1006, gw_652, gw_653, _, rfl, rfl⟩) <| 
  mA1 rfl (rfl) <| trivial

theorem mc_66 : mAllP 66 mt_66 :=
  trivial

theorem mc_67 : mAllP 67 mt_67 :=
  mA0 rfl <| 
  mA1 rfl (⟨_, rfl, Nat.le_of_ble_eq_true rfl, gw_279, rfl⟩) <| 
  mA1 rfl (Or.inl ⟨rfl, rfl⟩) <| trivial

theorem mc_68 : mAllP 68 mt_68 :=
  mA0 rfl <| 
  mA1 rfl (⟨_, rfl, Nat.le_of_ble_eq_true rfl, gw_280, rfl⟩) <| 
  mA0 rfl <| 
  mA0 rfl <| 
  mA0 rfl <| 
  mA0 rfl <| 
  mA0 rfl <| 
  mA0 rfl <| 
  mA0 rfl <| 
  mA0 rfl <| 
  mA0 rfl <| 
  mA1 rfl (Or.inr ⟨by decide, rfl⟩) <| trivial

theorem mc_69 : mAllP 69 mt_69 :=
  mA0 rfl <| 
  mA1 rfl (⟨_, rfl, Nat.le_of_ble_eq_true rfl, gw_280, rfl⟩) <| 
  mA1 rfl (⟨⟨Nat.le_of_ble_eq_true rfl, Nat.le_of_ble_eq_true rfl, Nat.le_of_ble_eq_true rfl, cal_328⟩, gw_1164, Or.inl gw_1163⟩) <| 
  mA1 rfl (Or.inl ⟨rfl, rfl⟩) <| trivial

theorem mc_70 : mAllP 70 mt_70 :=
  mA0 rfl <| 
  mA0 rfl <| 
  mA0 rfl <| 
  mA0 rfl <| 
  mA1 rfl (⟨_, rfl, Nat.le_of_ble_eq_true rfl, gw_280, rfl⟩) <| 
  mA0 rfl <| 
  mA0 rfl <| 
  mA0 rfl <| 
  mA0 rfl <| 
  mA1 rfl (⟨_, rfl, Nat.le_of_ble_eq_true rfl, gw_280, rfl, Or.inl rfl⟩) <| 
  mA0 rfl <| 
  mA0 rfl <| 
  mA0 rfl <| 
  mA1 rfl (⟨_, rfl, Nat.le_of_ble_eq_true rfl, gw_279, rfl, Or.inl rfl⟩) <| 
  mA1 rfl (rfl) <| trivial

theorem mc_71 : mAllP 71 mt_71 :=
  mA0 rfl <| 
  mA1 rfl (⟨gw_232, gw_26, gw_27, Nat.le_of_ble_eq_true rfl, Nat.le_of_ble_eq_true rfl⟩) <| 
  mA0 rfl <| 
  mA1 rfl (⟨_, rfl, gw_233, gw_46, gw_3⟩) <| 
  mA0 rfl <| 
  mA0 rfl <| 
  mA1 rfl (⟨⟨Nat.le_of_ble_eq_true rfl, Nat.le_of_ble_eq_true rfl, Nat.le_of_ble_eq_true rfl, cal_92⟩, rfl, rfl, (fun E => ⟨(100000, 0), rfl, mNone _⟩), gw_48, rfl, Or.inl gw_234⟩) <| 
  mA1 rfl (⟨_, rfl, Nat.le_of_ble_eq_true rfl, gw_235, rfl, Or.inr ⟨rfl, ini_71, rfl⟩⟩) <| 
  mA0 rfl <| 
  mA1 rfl (⟨_, rfl, gw_233, gw_46, gw_3⟩) <| 
  mA0 rfl <| 
  mA0 rfl <| 
  mA1 rfl (⟨⟨Nat.le_of_ble_eq_true rfl, Nat.le_of_ble_eq_true rfl, Nat.le_of_ble_eq_true rfl, cal_92⟩, rfl, rfl, (fun E => ⟨(100000, 0), rfl, mNone _⟩), gw_48, rfl, Or.inl gw_234⟩) <| 
  mA1 rfl (⟨_, rfl, Nat.le_of_ble_eq_true rfl, gw_236, rfl, Or.inr ⟨rfl, ini_71, rfl⟩⟩) <| 
  mA0 rfl <| 
  mA1 rfl (⟨_, rfl, gw_233, gw_46, gw_3⟩) <| 
  mA0 rfl <| 
  mA0 rfl <| 
  mA1 rfl (⟨⟨Nat.le_of_ble_eq_true rfl, Nat.le_of_ble_eq_true rfl, Nat.le_of_ble_eq_true rfl, cal_92⟩, rfl, rfl, (fun E => ⟨(100000, 0), rfl, mNone _⟩), gw_48, rfl, Or.inl gw_234⟩) <| 
  mA1 rfl (⟨_, rfl, Nat.le_of_ble_eq_true rfl, gw_237, rfl, Or.inr ⟨rfl, ini_71, rfl⟩⟩) <| 
  mA1 rfl (rfl) <| trivial

theorem mc_72 : mAllP 72 mt_72 :=
  mA0 rfl <| 
  mA1 rfl (⟨_, rfl, Nat.le_of_ble_eq_true rfl, gw_235, rfl⟩) <| 
  mA1 rfl (⟨⟨Nat.le_of_ble_eq_true rfl, Nat.le_of_ble_eq_true rfl, Nat.le_of_ble_eq_true rfl, cal_93⟩, rfl, gw_1136, gw_91, gw_92, _, rfl, rfl⟩) <| 
  mA1 rfl (Or.inl ⟨rfl, rfl⟩) <| trivial

theorem mc_73 : mAllP 73 mt_73 :=
  mA0 rfl <| 
  mA0 rfl <| 
  mA0 rfl <| 
  mA0 rfl <| 
  mA1 rfl (⟨_, rfl, Nat.le_of_ble_eq_true rfl, gw_235, rfl⟩) <| 
  mA1 rfl (⟨⟨Nat.le_of_ble_eq_true rfl, Nat.le_of_ble_eq_true rfl, Nat.le_of_ble_eq_true rfl, cal_93⟩, rfl, gw_1136, gw_91, gw_92, _, rfl, rfl⟩) <| 
  mA0 rfl <| 
  mA0 rfl <| 
  mA1 rfl (Or.inl ⟨rfl, rfl⟩) <| 
  mA1 rfl (gw_1245) <| 
  mA0 rfl <| 
  mA1 rfl (⟨_, rfl, Nat.le_of_ble_eq_true rfl, gw_235, rfl⟩) <| 
  mA0 rfl <| 
  mA1 rfl (⟨⟨Nat.le_of_ble_eq_true rfl, Nat.le_of_ble_eq_true rfl, Nat.le_of_ble_eq_true rfl, cal_95⟩, rfl, gw_1137, gw_95, gw_96, _, rfl, rfl⟩) <| 
  mA0 rfl <| 
  mA0 rfl <| 
  mA0 rfl <| 
  mA1 rfl (⟨_, rfl, Nat.le_of_ble_eq_true rfl, gw_236, rfl⟩) <| 
  mA0 rfl <| 
  mA1 rfl (⟨⟨Nat.le_of_ble_eq_true rfl, Nat.le_of_ble_eq_true rfl, Nat.le_of_ble_eq_true rfl, cal_95⟩, rfl, gw_1137, gw_95, gw_96, _, rfl, rfl⟩) <| 
  mA0 rfl <| 
  mA0 rfl <| 
  mA0 rfl <| 
  mA1 rfl (⟨_, rfl, Nat.le_of_ble_eq_true rfl, gw_237, rfl⟩) <| 
  mA0 rfl <| 
  mA1 rfl (⟨⟨Nat.le_of_ble_eq_true rfl, Nat.le_of_ble_eq_true rfl, Nat.le_of_ble_eq_true rfl, cal_95⟩, rfl, gw_1137, gw_95, gw_96, _, rfl, rfl⟩) <| 
  mA0 rfl <| 
  mA1 rfl (Or.inl ⟨rfl, rfl⟩) <| trivial

theorem mc_74 : mAllP 74 mt_74 :=
  mA0 rfl <| 
  mA1 rfl (⟨_, rfl, Nat.le_of_ble_eq_true rfl, gw_235, rfl⟩) <| 
  mA1 rfl (⟨⟨Nat.le_of_ble_eq_true rfl, Nat.le_of_ble_eq_true rfl, Nat.le_of_ble_eq_true rfl, cal_100⟩, rfl, gw_1135, gw_87, gw_88, _, rfl, rfl⟩) <| 
  mA0 rfl <| 
  mA1 rfl (⟨_, rfl, Nat.le_of_ble_eq_true rfl, gw_236, rfl⟩) <| 
  mA1 rfl (⟨⟨Nat.le_of_ble_eq_true rfl, Nat.le_of_ble_eq_true rfl, Nat.le_of_ble_eq_true rfl, cal_100⟩, rfl, gw_1135, gw_87, gw_88, _, rfl, rfl⟩) <| 
  mA0 rfl <| 
  mA1 rfl (⟨_, rfl, Nat.le_of_ble_eq_true rfl, gw_237, rfl⟩) <| 
  mA1 rfl (⟨⟨Nat.le_of_ble_eq_true rfl, Nat.le_of_ble_eq_true rfl, Nat.le_of_ble_eq_true rfl, cal_100⟩, rfl, gw_1135, gw_87, gw_88, _, rfl, rfl⟩) <| 
  mA0 rfl <| 
  mA0 rfl <| 
  mA0 rfl <| 
  mA0 rfl <| 
  mA1 rfl (⟨⟨Nat.le_of_ble_eq_true rfl, Nat.le_of_ble_eq_true rfl, Nat.le_of_ble_eq_true rfl, cal_93⟩, rfl, gw_1136, gw_91, gw_92, _, rfl, rfl⟩) <| 
  mA0 rfl <| 
  mA0 rfl <| 
  mA0 rfl <| 
  mA0 rfl <| 
  mA1 rfl (⟨⟨Nat.le_of_ble_eq_true rfl, Nat.le_of_ble_eq_true rfl, Nat.le_of_ble_eq_true rfl, cal_95⟩, rfl, gw_1137, gw_95, gw_96, _, rfl, rfl⟩) <| 
  mA1 rfl (⟨⟨Nat.le_of_ble_eq_true rfl, Nat.le_of_ble_eq_true rfl, Nat.le_of_ble_eq_true rfl, cal_63⟩, gw_1139, Or.inl gw_1138⟩) <| 
  mA0 rfl <| 
  mA0 rfl <| 
  mA1 rfl (⟨⟨Nat.le_of_ble_eq_true rfl, Nat.le_of_ble_eq_true rfl, Nat.le_of_ble_eq_true rfl, cal_95⟩, rfl, gw_1137, gw_95, gw_96, _, rfl, rfl⟩) <| 
  mA1 rfl (⟨⟨Nat.le_of_ble_eq_true rfl, Nat.le_of_ble_eq_true rfl, Nat.le_of_ble_eq_true rfl, cal_62⟩, gw_1142, Or.inl gw_1141⟩) <| 
  mA1 rfl (⟨⟨Nat.le_of_ble_eq_true rfl, Nat.le_of_ble_eq_true rfl, Nat.le_of_ble_eq_true rfl, cal_75⟩, rfl, gw_1144, gw_1146, gs_75, _, rfl, rfl⟩) <| 
  mA0 rfl <| 
  mA0 rfl <| 
  mA0 rfl <| 
  mA0 rfl <| 
  mA0 rfl <| 
  mA0 rfl <| 
  mA1 rfl (⟨_, rfl, Nat.le_of_ble_eq_true rfl, gw_235, rfl⟩) <| 
  mA1 rfl (⟨⟨Nat.le_of_ble_eq_true rfl, Nat.le_of_ble_eq_true rfl, Nat.le_of_ble_eq_true rfl, cal_93⟩, rfl, gw_1136, gw_91, gw_92, _, rfl, rfl⟩) <| 
  mA0 rfl <| 
  mA0 rfl <| 
  mA0 rfl <| 
  mA1 rfl (⟨⟨Nat.le_of_ble_eq_true rfl, Nat.le_of_ble_eq_true rfl, Nat.le_of_ble_eq_true rfl, cal_76⟩, rfl, gw_1150, gw_1152, gs_76, _, rfl, rfl⟩) <| 
  mA0 rfl <| 
  mA0 rfl <| 
  mA1 rfl (rfl) <| trivial

theorem mc_75 : mAllP 75 mt_75 :=
  mA0 rfl <| 
  mA1 rfl (⟨_, rfl, Nat.le_of_ble_eq_true rfl, gw_235, rfl⟩) <| 
  mA1 rfl (⟨⟨Nat.le_of_ble_eq_true rfl, Nat.le_of_ble_eq_true rfl, Nat.le_of_ble_eq_true rfl, cal_93⟩, rfl, gw_1136, gw_91, gw_92, _, rfl, rfl⟩) <| 
  mA0 rfl <| 
  mA0 rfl <| 
  mA0 rfl <| 
  mA0 rfl <| 
  mA1 rfl (⟨_, rfl, Nat.le_of_ble_eq_true rfl, gw_235, rfl⟩) <| 
  mA0 rfl <| 
  mA1 rfl (⟨⟨Nat.le_of_ble_eq_true rfl, Nat.le_of_ble_eq_true rfl, Nat.le_of_ble_eq_true rfl, cal_95⟩, rfl, gw_1137, gw_95, gw_96, _, rfl, rfl⟩) <| 
  mA0 rfl <| 
  mA0 rfl <| 
  mA0 rfl <| 
  mA1 rfl (⟨_, rfl, Nat.le_of_ble_eq_true rfl, gw_237, rfl⟩) <| 
  mA0 rfl <| 
  mA1 rfl (⟨⟨Nat.le_of_ble_eq_true rfl, Nat.le_of_ble_eq_true rfl, Nat.le_of_ble_eq_true rfl, cal_95⟩, rfl, gw_1137, gw_95, gw_96, _, rfl, rfl⟩) <| 
  mA0 rfl <| 
  mA0 rfl <| 
  mA0 rfl <| 
  mA0 rfl <| 
  mA0 rfl <| 
  mA1 rfl (⟨_, rfl, Nat.le_of_ble_eq_true rfl, gw_237, rfl⟩) <| 
  mA0 rfl <| 
  mA0 rfl <| 
  mA1 rfl (⟨⟨Nat.le_of_ble_eq_true rfl, Nat.le_of_ble_eq_true rfl, Nat.le_of_ble_eq_true rfl, cal_96⟩, rfl, gw_1148, gw_531, gw_532, _, rfl, rfl⟩) <| 
  mA1 rfl (rfl) <| 
  mA0 rfl <| 
  mA1 rfl (⟨_, rfl, Nat.le_of_ble_eq_true rfl, gw_235, rfl⟩) <| 
  mA0 rfl <| 
  mA1 rfl (⟨⟨Nat.le_of_ble_eq_true rfl, Nat.le_of_ble_eq_true rfl, Nat.le_of_ble_eq_true rfl, cal_97⟩, rfl, gw_1149, gw_79, gw_80, _, rfl, rfl⟩) <| 
  mA0 rfl <| 
  mA1 rfl (⟨_, rfl, Nat.le_of_ble_eq_true rfl, gw_236, rfl⟩) <| 
  mA0 rfl <| 
  mA1 rfl (⟨⟨Nat.le_of_ble_eq_true rfl, Nat.le_of_ble_eq_true rfl, Nat.le_of_ble_eq_true rfl, cal_97⟩, rfl, gw_1149, gw_79, gw_80, _, rfl, rfl⟩) <| 
  mA0 rfl <| 
  mA1 rfl (⟨_, rfl, Nat.le_of_ble_eq_true rfl, gw_237, rfl⟩) <| 
  mA0 rfl <| 
  mA1 rfl (⟨⟨Nat.le_of_ble_eq_true rfl, Nat.le_of_ble_eq_true rfl, Nat.le_of_ble_eq_true rfl, cal_97⟩, rfl, gw_1149, gw_79, gw_80, _, rfl, rfl⟩) <| 
  mA1 rfl (rfl) <| trivial

theorem mc_76 : mAllP 76 mt_76 :=
  mA0 rfl <| 
  mA0 rfl <| 
  mA0 rfl <| 
  mA0 rfl <| 
  mA1 rfl (⟨_, rfl, Nat.le_of_ble_eq_true rfl, gw_235, rfl⟩) <| 
  mA1 rfl (⟨⟨Nat.le_of_ble_eq_true rfl, Nat.le_of_ble_eq_true rfl, Nat.le_of_ble_eq_true rfl, cal_93⟩, rfl, gw_1136, gw_91, gw_92, _, rfl, rfl⟩) <| 
  mA0 rfl <| 
  mA0 rfl <| 
  mA1 rfl (⟨_, rfl, Nat.le_of_ble_eq_true rfl, gw_235, rfl⟩) <| 
  mA0 rfl <| 
  mA1 rfl (⟨⟨Nat.le_of_ble_eq_true rfl, Nat.le_of_ble_eq_true rfl, Nat.le_of_ble_eq_true rfl, cal_95⟩, rfl, gw_1137, gw_95, gw_96, _, rfl, rfl⟩) <| 
  mA0 rfl <| 
  mA0 rfl <| 
  mA1 rfl (⟨_, rfl, Nat.le_of_ble_eq_true rfl, gw_236, rfl⟩) <| 
  mA0 rfl <| 
  mA1 rfl (⟨⟨Nat.le_of_ble_eq_true rfl, Nat.le_of_ble_eq_true rfl, Nat.le_of_ble_eq_true rfl, cal_95⟩, rfl, gw_1137, gw_95, gw_96, _, rfl, rfl⟩) <| 
  mA0 rfl <| 
  mA1 rfl (⟨_, rfl, Nat.le_of_ble_eq_true rfl, gw_236, rfl⟩) <| 
  mA0 rfl <| 
  mA1 rfl (⟨⟨Nat.le_of_ble_eq_true rfl, Nat.le_of_ble_eq_true rfl, Nat.le_of_ble_eq_true rfl, cal_95⟩, rfl, gw_1137, gw_95, gw_96, _, rfl, rfl⟩) <| 
  mA0 rfl <| 
  mA0 rfl <| 
  mA0 rfl <| 
  mA0 rfl <| 
  mA0 rfl <| 
  mA0 rfl <| 
  mA0 rfl <| 
  mA0 rfl <| 
  mA0 rfl <| 
  mA0 rfl <| 
  mA1 rfl (rfl) <| 
  mA0 rfl <| 
  mA1 rfl (⟨_, rfl, Nat.le_of_ble_eq_true rfl, gw_235, rfl⟩) <| 
  mA0 rfl <| 
  mA0 rfl <| 
  mA1 rfl (⟨⟨Nat.le_of_ble_eq_true rfl, Nat.le_of_ble_eq_true rfl, Nat.le_of_ble_eq_true rfl, cal_96⟩, rfl, gw_1148, gw_531, gw_532, _, rfl, rfl⟩) <| 
  mA0 rfl <| 
  mA1 rfl (⟨_, rfl, Nat.le_of_ble_eq_true rfl, gw_237, rfl⟩) <| 
  mA0 rfl <| 
  mA0 rfl <| 
  mA1 rfl (⟨_, rfl, Nat.le_of_ble_eq_true rfl, gw_237, rfl⟩) <| 
  mA0 rfl <| 
  mA0 rfl <| 
  mA0 rfl <| 
  mA1 rfl (⟨⟨Nat.le_of_ble_eq_true rfl, Nat.le_of_ble_eq_true rfl, Nat.le_of_ble_eq_true rfl, cal_95⟩, rfl, gw_1137, gw_95, gw_96, _, rfl, rfl⟩) <| 
  mA1 rfl (⟨⟨Nat.le_of_ble_eq_true rfl, Nat.le_of_ble_eq_true rfl, Nat.le_of_ble_eq_true rfl, cal_96⟩, rfl, gw_1148, gw_531, gw_532, _, rfl, rfl⟩) <| 
  mA0 rfl <| 
  mA0 rfl <| 
  mA0 rfl <| 
  mA0 rfl <| 
  mA0 rfl <| 
  mA0 rfl <| 
  mA0 rfl <| 
  mA0 rfl <| 
  mA1 rfl (⟨_, rfl, Nat.le_of_ble_eq_true rfl, gw_235, rfl⟩) <| 
  mA0 rfl <| 
  mA1 rfl (⟨⟨Nat.le_of_ble_eq_true rfl, Nat.le_of_ble_eq_true rfl, Nat.le_of_ble_eq_true rfl, cal_99⟩, rfl, gw_1154, gw_928, gw_929, _, rfl, rfl⟩) <| 
  mA0 rfl <| 
  mA1 rfl (⟨_, rfl, Nat.le_of_ble_eq_true rfl, gw_236, rfl⟩) <| 
  mA0 rfl <| 
  mA1 rfl (⟨⟨Nat.le_of_ble_eq_true rfl, Nat.le_of_ble_eq_true rfl, Nat.le_of_ble_eq_true rfl, cal_99⟩, rfl, gw_1154, gw_928, gw_929, _, rfl, rfl⟩) <| 
  mA0 rfl <| 
  mA1 rfl (⟨_, rfl, Nat.le_of_ble_eq_true rfl, gw_237, rfl⟩) <| 
  mA0 rfl <| 
  mA1 rfl (⟨⟨Nat.le_of_ble_eq_true rfl, Nat.le_of_ble_eq_true rfl, Nat.le_of_ble_eq_true rfl, cal_99⟩, rfl, gw_1154, gw_928, gw_929, _, rfl, rfl⟩) <| 
  mA0 rfl <| 
  mA0 rfl <| 
  mA1 rfl (rfl) <| trivial

theorem mc_77 : mAllP 77 mt_77 :=
  mA0 rfl <| 
  mA1 rfl (⟨gw_249, gw_26, gw_27, Nat.le_of_ble_eq_true rfl, Nat.le_of_ble_eq_true rfl⟩) <| 
  mA0 rfl <| 
  mA1 rfl (⟨_, rfl, gw_250, gw_46, gw_3⟩) <| 
  mA0 rfl <| 
  mA0 rfl <| 
  mA1 rfl (⟨⟨Nat.le_of_ble_eq_true rfl, Nat.le_of_ble_eq_true rfl, Nat.le_of_ble_eq_true rfl, cal_92⟩, rfl, rfl, (fun E => ⟨(100000, 0), rfl, mNone _⟩), gw_48, rfl, Or.inl gw_251⟩) <| 
  mA1 rfl (⟨_, rfl, Nat.le_of_ble_eq_true rfl, gw_252, rfl, Or.inr ⟨rfl, ini_77, rfl⟩⟩) <| 
  mA0 rfl <| 
  mA1 rfl (⟨_, rfl, gw_250, gw_46, gw_3⟩) <| 
  mA0 rfl <| 
  mA0 rfl <| 
  mA1 rfl (⟨⟨Nat.le_of_ble_eq_true rfl, Nat.le_of_ble_eq_true rfl, Nat.le_of_ble_eq_true rfl, cal_92⟩, rfl, rfl, (fun E => ⟨(100000, 0), rfl, mNone _⟩), gw_48, rfl, Or.inl gw_251⟩) <| 
  mA1 rfl (⟨_, rfl, Nat.le_of_ble_eq_true rfl, gw_253, rfl, Or.inr ⟨rfl, ini_77, rfl⟩⟩) <| 
  mA0 rfl <| 
  mA1 rfl (⟨_, rfl, gw_250, gw_46, gw_3⟩) <| 
  mA0 rfl <| 
  mA0 rfl <| 
  mA1 rfl (⟨⟨Nat.le_of_ble_eq_true rfl, Nat.le_of_ble_eq_true rfl, Nat.le_of_ble_eq_true rfl, cal_92⟩, rfl, rfl, (fun E => ⟨(100000, 0), rfl, mNone _⟩), gw_48, rfl, Or.inl gw_251⟩) <| 
  mA1 rfl (⟨_, rfl, Nat.le_of_ble_eq_true rfl, gw_254, rfl, Or.inr ⟨rfl, ini_77, rfl⟩⟩) <| 
  mA1 rfl (rfl) <| trivial

theorem mc_78 : mAllP 78 mt_78 :=
  mA0 rfl <| 
  mA1 rfl (⟨_, rfl, Nat.le_of_ble_eq_true rfl, gw_255, rfl⟩) <| 
  mA1 rfl (Or.inr ⟨by decide, rfl⟩) <| trivial

theorem mc_79 : mAllP 79 mt_79 :=
  mA0 rfl <| 
  mA1 rfl (⟨_, rfl, Nat.le_of_ble_eq_true rfl, gw_252, rfl⟩) <| 
  mA1 rfl (⟨_, rfl⟩) <| trivial

theorem mc_80 : mAllP 80 mt_80 :=
  mA0 rfl <| 
  mA1 rfl (⟨_, rfl, Nat.le_of_ble_eq_true rfl, gw_252, rfl⟩) <| 
  mA1 rfl (⟨⟨Nat.le_of_ble_eq_true rfl, Nat.le_of_ble_eq_true rfl, Nat.le_of_ble_eq_true rfl, cal_100⟩, rfl, gw_462, gw_87, gw_88, _, rfl, rfl⟩) <| 
  mA0 rfl <| 
  mA1 rfl (⟨_, rfl, Nat.le_of_ble_eq_true rfl, gw_253, rfl⟩) <| 
  mA1 rfl (⟨⟨Nat.le_of_ble_eq_true rfl, Nat.le_of_ble_eq_true rfl, Nat.le_of_ble_eq_true rfl, cal_100⟩, rfl, gw_462, gw_87, gw_88, _, rfl, rfl⟩) <| 
  mA0 rfl <| 
  mA0 rfl <| 
  mA1 rfl (⟨_, rfl, Nat.le_of_ble_eq_true rfl, gw_255, rfl, Or.inl rfl⟩) <| 
  mA1 rfl (rfl) <| trivial

theorem mc_81 : mAllP 81 mt_81 :=
  mA0 rfl <| 
  mA1 rfl (⟨_, rfl, Nat.le_of_ble_eq_true rfl, gw_253, rfl⟩) <| 
  mA0 rfl <| 
  mA1 rfl (⟨⟨Nat.le_of_ble_eq_true rfl, Nat.le_of_ble_eq_true rfl, Nat.le_of_ble_eq_true rfl, cal_97⟩, rfl, gw_629, gw_79, gw_80, _, rfl, rfl⟩) <| 
  mA1 rfl (rfl) <| trivial

theorem mc_82 : mAllP 82 mt_82 :=
  mA0 rfl <| 
  mA1 rfl (⟨_, rfl, Nat.le_of_ble_eq_true rfl, gw_253, rfl⟩) <| 
  mA0 rfl <| 
  mA1 rfl (⟨⟨Nat.le_of_ble_eq_true rfl, Nat.le_of_ble_eq_true rfl, Nat.le_of_ble_eq_true rfl, cal_95⟩, rfl, gw_1107, gw_95, gw_96, _, rfl, rfl⟩) <| 
  mA1 rfl (Or.inl ⟨rfl, rfl⟩) <| trivial

theorem mc_83 : mAllP 83 mt_83 :=
  mA0 rfl <| 
  mA0 rfl <| 
  mA1 rfl (⟨_, rfl, Nat.le_of_ble_eq_true rfl, gw_255, rfl, Or.inl rfl⟩) <| 
  mA1 rfl (rfl) <| trivial

theorem mc_84 : mAllP 84 mt_84 :=
  mA0 rfl <| 
  mA1 rfl (⟨_, rfl, Nat.le_of_ble_eq_true rfl, gw_254, rfl⟩) <| 
  mA1 rfl (⟨_, rfl⟩) <| trivial

theorem mc_85 : mAllP 85 mt_85 :=
  mA0 rfl <| 
  mA1 rfl (⟨_, rfl, Nat.le_of_ble_eq_true rfl, gw_254, rfl⟩) <| 
  mA0 rfl <| 
  mA1 rfl (⟨⟨Nat.le_of_ble_eq_true rfl, Nat.le_of_ble_eq_true rfl, Nat.le_of_ble_eq_true rfl, cal_102⟩, rfl, gw_667, gw_668, gw_669, _, rfl, rfl⟩) <| 
  mA0 rfl <| 
  mA0 rfl <| 
  mA1 rfl (⟨_, rfl, Nat.le_of_ble_eq_true rfl, gw_255, rfl, Or.inl rfl⟩) <| 
  mA1 rfl (rfl) <| trivial

theorem mc_86 : mAllP 86 mt_86 :=
  mA0 rfl <| 
  mA1 rfl (⟨gw_160, gw_26, gw_27, Nat.le_of_ble_eq_true rfl, Nat.le_of_ble_eq_true rfl⟩) <| 
  mA0 rfl <| 
  mA1 rfl (⟨_, rfl, gw_161, gw_46, gw_3⟩) <| 
  mA0 rfl <| 
  mA0 rfl <| 
  mA1 rfl (⟨⟨Nat.le_of_ble_eq_true rfl, Nat.le_of_ble_eq_true rfl, Nat.le_of_ble_eq_true rfl, cal_92⟩, rfl, rfl, (fun E => ⟨(100000, 0), rfl, mNone _⟩), gw_48, rfl, Or.inl gw_162⟩) <| 
  mA1 rfl (⟨_, rfl, Nat.le_of_ble_eq_true rfl, gw_163, rfl, Or.inr ⟨rfl, ini_86, rfl⟩⟩) <| 
  mA0 rfl <| 
  mA1 rfl (⟨_, rfl, gw_161, gw_46, gw_3⟩) <| 
  mA0 rfl <| 
  mA0 rfl <| 
  mA1 rfl (⟨⟨Nat.le_of_ble_eq_true rfl, Nat.le_of_ble_eq_true rfl, Nat.le_of_ble_eq_true rfl, cal_92⟩, rfl, rfl, (fun E => ⟨(100000, 0), rfl, mNone _⟩), gw_48, rfl, Or.inl gw_162⟩) <| 
  mA1 rfl (⟨_, rfl, Nat.le_of_ble_eq_true rfl, gw_164, rfl, Or.inr ⟨rfl, ini_86, rfl⟩⟩) <| 
  mA1 rfl (rfl) <| trivial

theorem mc_87 : mAllP 87 mt_87 :=
  trivial

theorem mc_88 : mAllP 88 mt_88 :=
  trivial

theorem mc_89 : mAllP 89 mt_89 :=
  trivial

theorem mc_90 : mAllP 90 mt_90 :=
  trivial

theorem mc_91 : mAllP 91 mt_91 :=
  trivial

theorem mc_92 : mAllP 92 mt_92 :=
  mA0 rfl <| 
  mA1 rfl (⟨gw_50, gw_26, gw_27, Nat.le_of_ble_eq_true rfl, Nat.le_of_ble_eq_true rfl⟩) <| 
  mA0 rfl <| 
  mA0 rfl <| 
  mA0 rfl <| 
  mA1 rfl (⟨⟨Nat.le_of_ble_eq_true rfl, Nat.le_of_ble_eq_true rfl, Nat.le_of_ble_eq_true rfl, cal_329⟩, gw_52, Or.inl gw_51⟩) <| 
  mA1 rfl (gw_44) <| 
  mA1 rfl (⟨_, rfl, Nat.le_of_ble_eq_true rfl, gw_54, rfl, Or.inr ⟨rfl, ini_92, rfl⟩⟩) <| 
  mA1 rfl (rfl) <| trivial

theorem mc_93 : mAllP 93 mt_93 :=
  mA0 rfl <| 
  mA1 rfl (⟨_, rfl, Nat.le_of_ble_eq_true rfl, gw_55, rfl⟩) <| 
  mA1 rfl (Or.inl ⟨rfl, rfl⟩) <| trivial

theorem mc_94 : mAllP 94 mt_94 :=
  mA0 rfl <| 
  mA1 rfl (⟨_, rfl, Nat.le_of_ble_eq_true rfl, gw_55, rfl⟩) <| 
  mA0 rfl <| 
  mA0 rfl <| 
  mA0 rfl <| 
  mA0 rfl <| 
  mA1 rfl (Or.inr ⟨by decide, rfl⟩) <| trivial

theorem mc_95 : mAllP 95 mt_95 :=
  mA0 rfl <| 
  mA0 rfl <| 
  mA0 rfl <| 
  mA0 rfl <| 
  mA1 rfl (⟨_, rfl, Nat.le_of_ble_eq_true rfl, gw_55, rfl⟩) <| 
  mA0 rfl <| 
  mA0 rfl <| 
  mA1 rfl (⟨_, rfl, Nat.le_of_ble_eq_true rfl, gw_54, rfl⟩) <| 
  mA0 rfl <| 
  mA0 rfl <| 
  mA0 rfl <| 
  mA0 rfl <| 
  mA1 rfl (Or.inl ⟨rfl, rfl⟩) <| trivial

theorem mc_96 : mAllP 96 mt_96 :=
  mA0 rfl <| 
  mA0 rfl <| 
  mA0 rfl <| 
  mA0 rfl <| 
  mA1 rfl (⟨_, rfl, Nat.le_of_ble_eq_true rfl, gw_55, rfl⟩) <| 
  mA0 rfl <| 
  mA0 rfl <| 
  mA1 rfl (⟨_, rfl, Nat.le_of_ble_eq_true rfl, gw_54, rfl⟩) <| 
  mA0 rfl <| 
  mA0 rfl <| 
  mA0 rfl <| 
  mA1 rfl (rfl) <| trivial

theorem mc_97 : mAllP 97 mt_97 :=
  mA0 rfl <| 
  mA1 rfl (⟨_, rfl, Nat.le_of_ble_eq_true rfl, gw_55, rfl⟩) <| 
  mA0 rfl <| 
  mA1 rfl (⟨_, rfl, Nat.le_of_ble_eq_true rfl, gw_54, rfl⟩) <| 
  mA0 rfl <| 
  mA0 rfl <| 
  mA0 rfl <| 
  mA1 rfl (⟨_, rfl, Nat.le_of_ble_eq_true rfl, gw_54, rfl⟩) <| 
  mA0 rfl <| 
  mA1 rfl (⟨_, rfl, Nat.le_of_ble_eq_true rfl, gw_55, rfl⟩) <| 
  mA0 rfl <| 
  mA0 rfl <| 
  mA0 rfl <| 
  mA0 rfl <| 
  mA1 rfl (⟨_, rfl, Nat.le_of_ble_eq_true rfl, gw_55, rfl⟩) <| 
  mA0 rfl <| 
  mA0 rfl <| 
  mA1 rfl (⟨_, rfl, Nat.le_of_ble_eq_true rfl, gw_55, rfl, Or.inl rfl⟩) <| 
  mA1 rfl (rfl) <| trivial

theorem mc_98 : mAllP 98 mt_98 :=
  mA0 rfl <| 
  mA0 rfl <| 
  mA0 rfl <| 
  mA0 rfl <| 
  mA1 rfl (⟨_, rfl, Nat.le_of_ble_eq_true rfl, gw_55, rfl⟩) <| 
  mA0 rfl <| 
  mA0 rfl <| 
  mA1 rfl (⟨_, rfl, Nat.le_of_ble_eq_true rfl, gw_55, rfl⟩) <| 
  mA0 rfl <| 
  mA1 rfl (⟨_, rfl, Nat.le_of_ble_eq_true rfl, gw_54, rfl⟩) <| 
  mA0 rfl <| 
  mA0 rfl <| 
  mA1 rfl (rfl) <| 
  mA0 rfl <| 
  mA1 rfl (⟨_, rfl, Nat.le_of_ble_eq_true rfl, gw_55, rfl⟩) <| 
  mA0 rfl <| 
  mA0 rfl <| 
  mA0 rfl <| 
  mA0 rfl <| 
  mA0 rfl <| 
  mA1 rfl (⟨_, rfl, Nat.le_of_ble_eq_true rfl, gw_54, rfl⟩) <| 
  mA0 rfl <| 
  mA0 rfl <| 
  mA1 rfl (⟨_, rfl, Nat.le_of_ble_eq_true rfl, gw_54, rfl⟩) <| 
  mA0 rfl <| 
  mA0 rfl <| 
  mA0 rfl <| 
  mA0 rfl <| 
  mA0 rfl <| 
  mA0 rfl <| 
  mA0 rfl <| 
  mA0 rfl <| 
  mA1 rfl (⟨_, rfl, Nat.le_of_ble_eq_true rfl, gw_54, rfl⟩) <| 
  mA0 rfl <| 
  mA0 rfl <| 
  mA0 rfl <| 
  mA0 rfl <| 
  mA0 rfl <| 
  mA1 rfl (⟨_, rfl, Nat.le_of_ble_eq_true rfl, gw_55, rfl⟩) <| 
  mA0 rfl <| 
  mA0 rfl <| 
  mA1 rfl (⟨_, rfl, Nat.le_of_ble_eq_true rfl, gw_55, rfl, Or.inl rfl⟩) <| 
  mA1 rfl (rfl) <| trivial

theorem mc_99 : mAllP 99 mt_99 :=
  mA0 rfl <| 
  mA0 rfl <| 
  mA0 rfl <| 
  mA0 rfl <| 
  mA1 rfl (⟨_, rfl, Nat.le_of_ble_eq_true rfl, gw_55, rfl⟩) <| 
  mA0 rfl <| 
  mA1 rfl (rfl) <| 
  mA0 rfl <| 
  mA0 rfl <| 
  mA0 rfl <| 
  mA0 rfl <| 
  mA1 rfl (⟨_, rfl, Nat.le_of_ble_eq_true rfl, gw_55, rfl⟩) <| 
  mA0 rfl <| 
  mA0 rfl <| 
  mA0 rfl <| 
  mA0 rfl <| 
  mA1 rfl (⟨_, rfl, Nat.le_of_ble_eq_true rfl, gw_54, rfl⟩) <| 
  mA0 rfl <| 
  mA0 rfl <| 
  mA1 rfl (⟨_, rfl, Nat.le_of_ble_eq_true rfl, gw_54, rfl⟩) <| 
  mA0 rfl <| 
  mA0 rfl <| 
  mA0 rfl <| 
  mA0 rfl <| 
  mA0 rfl <| 
  mA0 rfl <| 
  mA0 rfl <| 
  mA0 rfl <| 
  mA0 rfl <| 
  mA1 rfl (⟨_, rfl, Nat.le_of_ble_eq_true rfl, gw_55, rfl⟩) <| 
  mA0 rfl <| 
  mA0 rfl <| 
  mA1 rfl (⟨_, rfl, Nat.le_of_ble_eq_true rfl, gw_55, rfl, Or.inl rfl⟩) <| 
  mA1 rfl (rfl) <| trivial

theorem mc_100 : mAllP 100 mt_100 :=
  mA0 rfl <| 
  mA0 rfl <| 
  mA1 rfl (⟨_, rfl, Nat.le_of_ble_eq_true rfl, gw_55, rfl, Or.inl rfl⟩) <| 
  mA1 rfl (rfl) <| trivial

theorem mc_101 : mAllP 101 mt_101 :=
  mA0 rfl <| 
  mA0 rfl <| 
  mA1 rfl (⟨⟨Nat.le_of_ble_eq_true rfl, Nat.le_of_ble_eq_true rfl, Nat.le_of_ble_eq_true rfl, cal_329⟩, gw_52, Or.inl gw_51⟩) <| 
  mA0 rfl <| 
  mA0 rfl <| 
  mA0 rfl <| 
  mA0 rfl <| 
  mA0 rfl <| 
  mA0 rfl <| 
  mA1 rfl (⟨⟨Nat.le_of_ble_eq_true rfl, Nat.le_of_ble_eq_true rfl, Nat.le_of_ble_eq_true rfl, cal_93⟩, rfl, gw_487, gw_91, gw_92, _, rfl, rfl⟩) <| 
  mA0 rfl <| 
  mA0 rfl <| 
  mA0 rfl <| 
  mA0 rfl <| 
  mA1 rfl (⟨⟨Nat.le_of_ble_eq_true rfl, Nat.le_of_ble_eq_true rfl, Nat.le_of_ble_eq_true rfl, cal_95⟩, rfl, gw_488, gw_95, gw_96, _, rfl, rfl⟩) <| 
  mA1 rfl (⟨⟨Nat.le_of_ble_eq_true rfl, Nat.le_of_ble_eq_true rfl, Nat.le_of_ble_eq_true rfl, cal_97⟩, rfl, gw_489, gw_79, gw_80, _, rfl, rfl⟩) <| 
  mA0 rfl <| 
  mA0 rfl <| 
  mA1 rfl (rfl) <| trivial

theorem mc_102 : mAllP 102 mt_102 :=
  mA0 rfl <| 
  mA1 rfl (⟨⟨Nat.le_of_ble_eq_true rfl, Nat.le_of_ble_eq_true rfl, Nat.le_of_ble_eq_true rfl, cal_100⟩, rfl, gw_671, gw_87, gw_88, _, rfl, rfl⟩) <| 
  mA0 rfl <| 
  mA0 rfl <| 
  mA0 rfl <| 
  mA0 rfl <| 
  mA1 rfl (⟨⟨Nat.le_of_ble_eq_true rfl, Nat.le_of_ble_eq_true rfl, Nat.le_of_ble_eq_true rfl, cal_93⟩, rfl, gw_487, gw_91, gw_92, _, rfl, rfl⟩) <| 
  mA1 rfl (⟨⟨Nat.le_of_ble_eq_true rfl, Nat.le_of_ble_eq_true rfl, Nat.le_of_ble_eq_true rfl, cal_101⟩, rfl, gw_672, gw_484, gw_485, _, rfl, rfl⟩) <| 
  mA1 rfl (rfl) <| trivial

theorem mc_103 : mAllP 103 mt_103 :=
  mA0 rfl <| 
  mA0 rfl <| 
  mA0 rfl <| 
  mA0 rfl <| 
  mA1 rfl (⟨_, rfl, Nat.le_of_ble_eq_true rfl, gw_55, rfl⟩) <| 
  mA0 rfl <| 
  mA0 rfl <| 
  mA1 rfl (⟨_, rfl, Nat.le_of_ble_eq_true rfl, gw_54, rfl⟩) <| 
  mA0 rfl <| 
  mA0 rfl <| 
  mA0 rfl <| 
  mA0 rfl <| 
  mA0 rfl <| 
  mA1 rfl (Or.inl ⟨rfl, rfl⟩) <| 
  mA0 rfl <| 
  mA0 rfl <| 
  mA0 rfl <| 
  mA1 rfl (Or.inl ⟨rfl, rfl⟩) <| trivial

theorem mc_104 : mAllP 104 mt_104 :=
  mA0 rfl <| 
  mA0 rfl <| 
  mA1 rfl (⟨⟨Nat.le_of_ble_eq_true rfl, Nat.le_of_ble_eq_true rfl, Nat.le_of_ble_eq_true rfl, cal_103⟩, rfl, gw_911, gw_555, gw_556, _, rfl, rfl⟩) <| 
  mA0 rfl <| 
  mA0 rfl <| 
  mA0 rfl <| 
  mA0 rfl <| 
  mA0 rfl <| 
  mA1 rfl (Or.inr ⟨by decide, rfl⟩) <| trivial

theorem mc_105 : mAllP 105 mt_105 :=
  mA0 rfl <| 
  mA1 rfl (⟨gw_68, gw_26, gw_27, Nat.le_of_ble_eq_true rfl, Nat.le_of_ble_eq_true rfl⟩) <| 
  mA0 rfl <| 
  mA1 rfl (⟨_, rfl, gw_69, gw_46, gw_3⟩) <| 
  mA0 rfl <| 
  mA0 rfl <| 
  mA1 rfl (⟨⟨Nat.le_of_ble_eq_true rfl, Nat.le_of_ble_eq_true rfl, Nat.le_of_ble_eq_true rfl, cal_92⟩, rfl, rfl, (fun E => ⟨(100000, 0), rfl, mNone _⟩), gw_48, rfl, Or.inl gw_70⟩) <| 
  mA1 rfl (⟨_, rfl, Nat.le_of_ble_eq_true rfl, gw_98, rfl, Or.inr ⟨rfl, ini_105, rfl⟩⟩) <| 
  mA0 rfl <| 
  mA1 rfl (⟨_, rfl, gw_69, gw_46, gw_3⟩) <| 
  mA0 rfl <| 
  mA0 rfl <| 
  mA1 rfl (⟨⟨Nat.le_of_ble_eq_true rfl, Nat.le_of_ble_eq_true rfl, Nat.le_of_ble_eq_true rfl, cal_92⟩, rfl, rfl, (fun E => ⟨(100000, 0), rfl, mNone _⟩), gw_48, rfl, Or.inl gw_70⟩) <| 
  mA1 rfl (⟨_, rfl, Nat.le_of_ble_eq_true rfl, gw_99, rfl, Or.inr ⟨rfl, ini_105, rfl⟩⟩) <| 
  mA0 rfl <| 
  mA1 rfl (⟨_, rfl, gw_69, gw_46, gw_3⟩) <| 
  mA0 rfl <| 
  mA0 rfl <| 
  mA1 rfl (⟨⟨Nat.le_of_ble_eq_true rfl, Nat.le_of_ble_eq_true rfl, Nat.le_of_ble_eq_true rfl, cal_92⟩, rfl, rfl, (fun E => ⟨(100000, 0), rfl, mNone _⟩), gw_48, rfl, Or.inl gw_70⟩) <| 
  mA1 rfl (⟨_, rfl, Nat.le_of_ble_eq_true rfl, gw_100, rfl, Or.inr ⟨rfl, ini_105, rfl⟩⟩) <| 
  mA0 rfl <| 
  mA1 rfl (⟨_, rfl, gw_69, gw_46, gw_3⟩) <| 
  mA0 rfl <| 
  mA0 rfl <| 
  mA1 rfl (⟨⟨Nat.le_of_ble_eq_true rfl, Nat.le_of_ble_eq_true rfl, Nat.le_of_ble_eq_true rfl, cal_92⟩, rfl, rfl, (fun E => ⟨(100000, 0), rfl, mNone _⟩), gw_48, rfl, Or.inl gw_70⟩) <| 
  mA1 rfl (⟨_, rfl, Nat.le_of_ble_eq_true rfl, gw_101, rfl, Or.inr ⟨rfl, ini_105, rfl⟩⟩) <| 
  mA0 rfl <| 
  mA1 rfl (⟨_, rfl, gw_69, gw_46, gw_3⟩) <| 
  mA0 rfl <| 
  mA0 rfl <| 
  mA1 rfl (⟨⟨Nat.le_of_ble_eq_true rfl, Nat.le_of_ble_eq_true rfl, Nat.le_of_ble_eq_true rfl, cal_92⟩, rfl, rfl, (fun E => ⟨(100000, 0), rfl, mNone _⟩), gw_48, rfl, Or.inl gw_70⟩) <| 
  mA1 rfl (⟨_, rfl, Nat.le_of_ble_eq_true rfl, gw_102, rfl, Or.inr ⟨rfl, ini_105, rfl⟩⟩) <| 
  mA0 rfl <| 
  mA1 rfl (⟨_, rfl, gw_69, gw_46, gw_3⟩) <| 
  mA0 rfl <| 
  mA0 rfl <| 
  mA1 rfl (⟨⟨Nat.le_of_ble_eq_true rfl, Nat.le_of_ble_eq_true rfl, Nat.le_of_ble_eq_true rfl, cal_92⟩, rfl, rfl, (fun E => ⟨(100000, 0), rfl, mNone _⟩), gw_48, rfl, Or.inl gw_70⟩) <| 
  mA1 rfl (⟨_, rfl, Nat.le_of_ble_eq_true rfl, gw_103, rfl, Or.inr ⟨rfl, ini_105, rfl⟩⟩) <| 
  mA0 rfl <| 
  mA1 rfl (⟨_, rfl, gw_69, gw_46, gw_3⟩) <| 
  mA0 rfl <| 
  mA0 rfl <| 
  mA1 rfl (⟨⟨Nat.le_of_ble_eq_true rfl, Nat.le_of_ble_eq_true rfl, Nat.le_of_ble_eq_true rfl, cal_92⟩, rfl, rfl, (fun E => ⟨(100000, 0), rfl, mNone _⟩), gw_48, rfl, Or.inl gw_70⟩) <| 
  mA1 rfl (⟨_, rfl, Nat.le_of_ble_eq_true rfl, gw_104, rfl, Or.inr ⟨rfl, ini_105, rfl⟩⟩) <| 
  mA0 rfl <| 
  mA1 rfl (⟨_, rfl, gw_69, gw_46, gw_3⟩) <| 
  mA0 rfl <| 
  mA0 rfl <| 
  mA1 rfl (⟨⟨Nat.le_of_ble_eq_true rfl, Nat.le_of_ble_eq_true rfl, Nat.le_of_ble_eq_true rfl, cal_92⟩, rfl, rfl, (fun E => ⟨(100000, 0), rfl, mNone _⟩), gw_48, rfl, Or.inl gw_70⟩) <| 
  mA1 rfl (⟨_, rfl, Nat.le_of_ble_eq_true rfl, gw_105, rfl, Or.inr ⟨rfl, ini_105, rfl⟩⟩) <| 
  mA0 rfl <| 
  mA1 rfl (⟨_, rfl, gw_69, gw_46, gw_3⟩) <| 
  mA0 rfl <| 
  mA0 rfl <| 
  mA1 rfl (⟨⟨Nat.le_of_ble_eq_true rfl, Nat.le_of_ble_eq_true rfl, Nat.le_of_ble_eq_true rfl, cal_92⟩, rfl, rfl, (fun E => ⟨(100000, 0), rfl, mNone _⟩), gw_48, rfl, Or.inl gw_70⟩) <| 
  mA1 rfl (⟨_, rfl, Nat.le_of_ble_eq_true rfl, gw_106, rfl, Or.inr ⟨rfl, ini_105, rfl⟩⟩) <| 
  mA0 rfl <| 
  mA1 rfl (⟨_, rfl, gw_69, gw_46, gw_3⟩) <| 
  mA0 rfl <| 
  mA0 rfl <| 
  mA1 rfl (⟨⟨Nat.le_of_ble_eq_true rfl, Nat.le_of_ble_eq_true rfl, Nat.le_of_ble_eq_true rfl, cal_92⟩, rfl, rfl, (fun E => ⟨(100000, 0), rfl, mNone _⟩), gw_48, rfl, Or.inl gw_70⟩) <| 
  mA1 rfl (⟨_, rfl, Nat.le_of_ble_eq_true rfl, gw_107, rfl, Or.inr ⟨rfl, ini_105, rfl⟩⟩) <| 
  mA0 rfl <| 
  mA0 rfl <| 
  mA1 rfl (gw_132) <| 
  mA1 rfl (⟨_, rfl, Nat.le_of_ble_eq_true rfl, gw_108, rfl, Or.inr ⟨rfl, ini_105, rfl⟩⟩) <| 
  mA0 rfl <| 
  mA0 rfl <| 
  mA0 rfl <| 
  mA0 rfl <| 
  mA0 rfl <| 
  mA0 rfl <| 
  mA0 rfl <| 
  mA0 rfl <| 
  mA1 rfl (⟨⟨Nat.le_of_ble_eq_true rfl, Nat.le_of_ble_eq_true rfl, Nat.le_of_ble_eq_true rfl, cal_106⟩, rfl, gw_71, gw_73, gs_106, _, rfl, rfl⟩) <| 
  mA0 rfl <| 
  mA0 rfl <| 
  mA0 rfl <| 
  mA0 rfl <| 
  mA0 rfl <| 
  mA0 rfl <| 
  mA0 rfl <| 
  mA0 rfl <| 
  mA0 rfl <| 
  mA0 rfl <| 
  mA1 rfl (⟨⟨Nat.le_of_ble_eq_true rfl, Nat.le_of_ble_eq_true rfl, Nat.le_of_ble_eq_true rfl, cal_106⟩, rfl, gw_71, gw_73, gs_106, _, rfl, rfl⟩) <| 
  mA0 rfl <| 
  mA0 rfl <| 
  mA0 rfl <| 
  mA0 rfl <| 
  mA0 rfl <| 
  mA1 rfl (⟨⟨Nat.le_of_ble_eq_true rfl, Nat.le_of_ble_eq_true rfl, Nat.le_of_ble_eq_true rfl, cal_106⟩, rfl, gw_71, gw_73, gs_106, _, rfl, rfl⟩) <| 
  mA0 rfl <| 
  mA0 rfl <| 
  mA0 rfl <| 
  mA1 rfl (⟨⟨Nat.le_of_ble_eq_true rfl, Nat.le_of_ble_eq_true rfl, Nat.le_of_ble_eq_true rfl, cal_107⟩, rfl, gw_82, gw_84, gs_107, _, rfl, rfl⟩) <| 
  mA1 rfl (rfl) <| trivial

theorem mc_106 : mAllP 106 mt_106 :=
  mA0 rfl <| 
  mA1 rfl (⟨_, rfl, Nat.le_of_ble_eq_true rfl, gw_98, rfl⟩) <| 
  mA0 rfl <| 
  mA1 rfl (⟨⟨Nat.le_of_ble_eq_true rfl, Nat.le_of_ble_eq_true rfl, Nat.le_of_ble_eq_true rfl, cal_185⟩, gw_76, Or.inr ⟨rfl, (fun E => ⟨(100000, 0), rfl, mNone _⟩), _, List.mem_of_getElem? (i := 0) rfl⟩⟩) <| 
  mA1 rfl (⟨⟨Nat.le_of_ble_eq_true rfl, Nat.le_of_ble_eq_true rfl, Nat.le_of_ble_eq_true rfl, cal_97⟩, rfl, gw_78, gw_79, gw_80, _, rfl, rfl⟩) <| 
  mA0 rfl <| 
  mA1 rfl (⟨_, rfl, Nat.le_of_ble_eq_true rfl, gw_99, rfl⟩) <| 
  mA0 rfl <| 
  mA1 rfl (⟨⟨Nat.le_of_ble_eq_true rfl, Nat.le_of_ble_eq_true rfl, Nat.le_of_ble_eq_true rfl, cal_97⟩, rfl, gw_78, gw_79, gw_80, _, rfl, rfl⟩) <| 
  mA1 rfl (rfl) <| trivial

theorem mc_107 : mAllP 107 mt_107 :=
  mA0 rfl <| 
  mA1 rfl (⟨_, rfl, Nat.le_of_ble_eq_true rfl, gw_100, rfl⟩) <| 
  mA1 rfl (⟨⟨Nat.le_of_ble_eq_true rfl, Nat.le_of_ble_eq_true rfl, Nat.le_of_ble_eq_true rfl, cal_100⟩, rfl, gw_86, gw_87, gw_88, _, rfl, rfl⟩) <| 
  mA0 rfl <| 
  mA1 rfl (⟨_, rfl, Nat.le_of_ble_eq_true rfl, gw_101, rfl⟩) <| 
  mA1 rfl (⟨⟨Nat.le_of_ble_eq_true rfl, Nat.le_of_ble_eq_true rfl, Nat.le_of_ble_eq_true rfl, cal_100⟩, rfl, gw_86, gw_87, gw_88, _, rfl, rfl⟩) <| 
  mA0 rfl <| 
  mA1 rfl (⟨_, rfl, Nat.le_of_ble_eq_true rfl, gw_102, rfl⟩) <| 
  mA1 rfl (⟨⟨Nat.le_of_ble_eq_true rfl, Nat.le_of_ble_eq_true rfl, Nat.le_of_ble_eq_true rfl, cal_100⟩, rfl, gw_86, gw_87, gw_88, _, rfl, rfl⟩) <| 
  mA0 rfl <| 
  mA0 rfl <| 
  mA0 rfl <| 
  mA0 rfl <| 
  mA0 rfl <| 
  mA0 rfl <| 
  mA0 rfl <| 
  mA0 rfl <| 
  mA0 rfl <| 
  mA0 rfl <| 
  mA1 rfl (⟨_, rfl, Nat.le_of_ble_eq_true rfl, gw_98, rfl⟩) <| 
  mA1 rfl (⟨⟨Nat.le_of_ble_eq_true rfl, Nat.le_of_ble_eq_true rfl, Nat.le_of_ble_eq_true rfl, cal_93⟩, rfl, gw_90, gw_91, gw_92, _, rfl, rfl⟩) <| 
  mA0 rfl <| 
  mA0 rfl <| 
  mA1 rfl (⟨_, rfl, Nat.le_of_ble_eq_true rfl, gw_99, rfl⟩) <| 
  mA0 rfl <| 
  mA1 rfl (⟨⟨Nat.le_of_ble_eq_true rfl, Nat.le_of_ble_eq_true rfl, Nat.le_of_ble_eq_true rfl, cal_95⟩, rfl, gw_94, gw_95, gw_96, _, rfl, rfl⟩) <| 
  mA0 rfl <| 
  mA0 rfl <| 
  mA0 rfl <| 
  mA0 rfl <| 
  mA0 rfl <| 
  mA0 rfl <| 
  mA0 rfl <| 
  mA0 rfl <| 
  mA0 rfl <| 
  mA0 rfl <| 
  mA0 rfl <| 
  mA0 rfl <| 
  mA0 rfl <| 
  mA0 rfl <| 
  mA0 rfl <| 
  mA0 rfl <| 
  mA0 rfl <| 
  mA0 rfl <| 
  mA0 rfl <| 
  mA0 rfl <| 
  mA0 rfl <| 
  mA0 rfl <| 
  mA0 rfl <| 
  mA0 rfl <| 
  mA0 rfl <| 
  mA0 rfl <| 
  mA0 rfl <| 
  mA0 rfl <| 
  mA0 rfl <| 
  mA0 rfl <| 
  mA0 rfl <| 
  mA0 rfl <| 
  mA0 rfl <| 
  mA0 rfl <| 
  mA0 rfl <| 
  mA0 rfl <| 
  mA0 rfl <| 
  mA0 rfl <| 
  mA0 rfl <| 
  mA1 rfl (⟨_, rfl, Nat.le_of_ble_eq_true rfl, gw_100, rfl⟩) <| 
  mA0 rfl <| 
  mA1 rfl (⟨⟨Nat.le_of_ble_eq_true rfl, Nat.le_of_ble_eq_true rfl, Nat.le_of_ble_eq_true rfl, cal_97⟩, rfl, gw_78, gw_79, gw_80, _, rfl, rfl⟩) <| 
  mA0 rfl <| 
  mA1 rfl (⟨_, rfl, Nat.le_of_ble_eq_true rfl, gw_101, rfl⟩) <| 
  mA0 rfl <| 
  mA1 rfl (⟨⟨Nat.le_of_ble_eq_true rfl, Nat.le_of_ble_eq_true rfl, Nat.le_of_ble_eq_true rfl, cal_97⟩, rfl, gw_78, gw_79, gw_80, _, rfl, rfl⟩) <| 
  mA0 rfl <| 
  mA1 rfl (⟨_, rfl, Nat.le_of_ble_eq_true rfl, gw_102, rfl⟩) <| 
  mA0 rfl <| 
  mA1 rfl (⟨⟨Nat.le_of_ble_eq_true rfl, Nat.le_of_ble_eq_true rfl, Nat.le_of_ble_eq_true rfl, cal_97⟩, rfl, gw_78, gw_79, gw_80, _, rfl, rfl⟩) <| 
  mA0 rfl <| 
  mA0 rfl <| 
  mA1 rfl (rfl) <| trivial

theorem mc_108 : mAllP 108 mt_108 :=
  mA0 rfl <| 
  mA0 rfl <| 
  mA0 rfl <| 
  mA0 rfl <| 
  mA0 rfl <| 
  mA0 rfl <| 
  mA1 rfl (⟨_, rfl, Nat.le_of_ble_eq_true rfl, gw_108, rfl⟩) <| 
  mA0 rfl <| 
  mA0 rfl <| 
  mA0 rfl <| 
  mA0 rfl <| 
  mA0 rfl <| 
  mA0 rfl <| 
  mA1 rfl (Or.inr ⟨by decide, rfl⟩) <| trivial

theorem mc_109 : mAllP 109 mt_109 :=
  mA0 rfl <| 
  mA0 rfl <| 
  mA0 rfl <| 
  mA0 rfl <| 
  mA0 rfl <| 
  mA0 rfl <| 
  mA1 rfl (⟨_, rfl, Nat.le_of_ble_eq_true rfl, gw_108, rfl⟩) <| 
  mA0 rfl <| 
  mA0 rfl <| 
  mA0 rfl <| 
  mA1 rfl (rfl) <| trivial

theorem mc_110 : mAllP 110 mt_110 :=
  mA0 rfl <| 
  mA1 rfl (⟨_, rfl, Nat.le_of_ble_eq_true rfl, gw_98, rfl⟩) <| 
  mA1 rfl (⟨⟨Nat.le_of_ble_eq_true rfl, Nat.le_of_ble_eq_true rfl, Nat.le_of_ble_eq_true rfl, cal_93⟩, rfl, gw_90, gw_91, gw_92, _, rfl, rfl⟩) <| 
  mA1 rfl (Or.inl ⟨rfl, rfl⟩) <| trivial

theorem mc_111 : mAllP 111 mt_111 :=
  mA0 rfl <| 
  mA1 rfl (⟨_, rfl, Nat.le_of_ble_eq_true rfl, gw_105, rfl⟩) <| 
  mA1 rfl (⟨⟨Nat.le_of_ble_eq_true rfl, Nat.le_of_ble_eq_true rfl, Nat.le_of_ble_eq_true rfl, cal_93⟩, rfl, gw_90, gw_91, gw_92, _, rfl, rfl⟩) <| 
  mA1 rfl (Or.inl ⟨rfl, rfl⟩) <| trivial

theorem mc_112 : mAllP 112 mt_112 :=
  mA1 rfl (gw_1085) <| 
  mA0 rfl <| 
  mA1 rfl (⟨_, rfl, Nat.le_of_ble_eq_true rfl, gw_99, rfl⟩) <| 
  mA0 rfl <| 
  mA1 rfl (⟨⟨Nat.le_of_ble_eq_true rfl, Nat.le_of_ble_eq_true rfl, Nat.le_of_ble_eq_true rfl, cal_95⟩, rfl, gw_94, gw_95, gw_96, _, rfl, rfl⟩) <| 
  mA0 rfl <| 
  mA0 rfl <| 
  mA1 rfl (⟨_, rfl, Nat.le_of_ble_eq_true rfl, gw_98, rfl⟩) <| 
  mA0 rfl <| 
  mA1 rfl (⟨⟨Nat.le_of_ble_eq_true rfl, Nat.le_of_ble_eq_true rfl, Nat.le_of_ble_eq_true rfl, cal_95⟩, rfl, gw_94, gw_95, gw_96, _, rfl, rfl⟩) <| 
  mA0 rfl <| 
  mA1 rfl (Or.inl ⟨rfl, rfl⟩) <| trivial

theorem mc_113 : mAllP 113 mt_113 :=
  mA0 rfl <| 
  mA1 rfl (⟨_, rfl, Nat.le_of_ble_eq_true rfl, gw_98, rfl⟩) <| 
  mA0 rfl <| 
  mA1 rfl (⟨⟨Nat.le_of_ble_eq_true rfl, Nat.le_of_ble_eq_true rfl, Nat.le_of_ble_eq_true rfl, cal_103⟩, rfl, gw_554, gw_555, gw_556, _, rfl, rfl⟩) <| 
  mA0 rfl <| 
  mA0 rfl <| 
  mA0 rfl <| 
  mA1 rfl (⟨_, rfl, Nat.le_of_ble_eq_true rfl, gw_103, rfl⟩) <| 
  mA0 rfl <| 
  mA1 rfl (⟨⟨Nat.le_of_ble_eq_true rfl, Nat.le_of_ble_eq_true rfl, Nat.le_of_ble_eq_true rfl, cal_103⟩, rfl, gw_554, gw_555, gw_556, _, rfl, rfl⟩) <| 
  mA0 rfl <| 
  mA0 rfl <| 
  mA0 rfl <| 
  mA0 rfl <| 
  mA0 rfl <| 
  mA1 rfl (Or.inr ⟨by decide, rfl⟩) <| trivial

theorem mc_114 : mAllP 114 mt_114 :=
  mA0 rfl <| 
  mA1 rfl (⟨_, rfl, Nat.le_of_ble_eq_true rfl, gw_100, rfl⟩) <| 
  mA0 rfl <| 
  mA1 rfl (⟨_, rfl, Nat.le_of_ble_eq_true rfl, gw_98, rfl⟩) <| 
  mA0 rfl <| 
  mA1 rfl (⟨⟨Nat.le_of_ble_eq_true rfl, Nat.le_of_ble_eq_true rfl, Nat.le_of_ble_eq_true rfl, cal_103⟩, rfl, gw_554, gw_555, gw_556, _, rfl, rfl⟩) <| 
  mA1 rfl (⟨⟨Nat.le_of_ble_eq_true rfl, Nat.le_of_ble_eq_true rfl, Nat.le_of_ble_eq_true rfl, cal_95⟩, rfl, gw_94, gw_95, gw_96, _, rfl, rfl⟩) <| 
  mA0 rfl <| 
  mA1 rfl (⟨⟨Nat.le_of_ble_eq_true rfl, Nat.le_of_ble_eq_true rfl, Nat.le_of_ble_eq_true rfl, cal_329⟩, gw_52, Or.inl gw_558⟩) <| 
  mA1 rfl (Or.inl ⟨rfl, rfl⟩) <| trivial

theorem mc_115 : mAllP 115 mt_115 :=
  mA0 rfl <| 
  mA1 rfl (⟨_, rfl, Nat.le_of_ble_eq_true rfl, gw_103, rfl⟩) <| 
  mA0 rfl <| 
  mA1 rfl (⟨⟨Nat.le_of_ble_eq_true rfl, Nat.le_of_ble_eq_true rfl, Nat.le_of_ble_eq_true rfl, cal_103⟩, rfl, gw_554, gw_555, gw_556, _, rfl, rfl⟩) <| 
  mA0 rfl <| 
  mA0 rfl <| 
  mA1 rfl (⟨_, rfl, Nat.le_of_ble_eq_true rfl, gw_104, rfl⟩) <| 
  mA0 rfl <| 
  mA1 rfl (⟨⟨Nat.le_of_ble_eq_true rfl, Nat.le_of_ble_eq_true rfl, Nat.le_of_ble_eq_true rfl, cal_95⟩, rfl, gw_94, gw_95, gw_96, _, rfl, rfl⟩) <| 
  mA0 rfl <| 
  mA0 rfl <| 
  mA0 rfl <| 
  mA0 rfl <| 
  mA0 rfl <| 
  mA0 rfl <| 
  mA0 rfl <| 
  mA1 rfl (⟨⟨Nat.le_of_ble_eq_true rfl, Nat.le_of_ble_eq_true rfl, Nat.le_of_ble_eq_true rfl, cal_186⟩, gw_590, Or.inr ⟨rfl, (fun E => ⟨(100000, 0), rfl, mNone _⟩), _, List.mem_of_getElem? (i := 13) rfl⟩⟩) <| 
  mA0 rfl <| 
  mA0 rfl <| 
  mA0 rfl <| 
  mA0 rfl <| 
  mA0 rfl <| 
  mA0 rfl <| 
  mA0 rfl <| 
  mA1 rfl (⟨_, rfl, Nat.le_of_ble_eq_true rfl, gw_98, rfl⟩) <| 
  mA0 rfl <| 
  mA0 rfl <| 
  mA0 rfl <| 
  mA0 rfl <| 
  mA0 rfl <| 
  mA0 rfl <| 
  mA0 rfl <| 
  mA1 rfl (⟨⟨Nat.le_of_ble_eq_true rfl, Nat.le_of_ble_eq_true rfl, Nat.le_of_ble_eq_true rfl, cal_187⟩, gw_593, Or.inr ⟨rfl, (fun E => ⟨(100000, 0), rfl, mNone _⟩), _, List.mem_of_getElem? (i := 14) rfl⟩⟩) <| 
  mA1 rfl (⟨⟨Nat.le_of_ble_eq_true rfl, Nat.le_of_ble_eq_true rfl, Nat.le_of_ble_eq_true rfl, cal_185⟩, gw_76, Or.inr ⟨rfl, (fun E => ⟨(100000, 0), rfl, mNone _⟩), _, List.mem_of_getElem? (i := 0) rfl⟩⟩) <| 
  mA1 rfl (⟨⟨Nat.le_of_ble_eq_true rfl, Nat.le_of_ble_eq_true rfl, Nat.le_of_ble_eq_true rfl, cal_103⟩, rfl, gw_554, gw_555, gw_556, _, rfl, rfl⟩) <| 
  mA0 rfl <| 
  mA0 rfl <| 
  mA0 rfl <| 
  mA1 rfl (⟨_, rfl, Nat.le_of_ble_eq_true rfl, gw_100, rfl⟩) <| 
  mA0 rfl <| 
  mA1 rfl (⟨⟨Nat.le_of_ble_eq_true rfl, Nat.le_of_ble_eq_true rfl, Nat.le_of_ble_eq_true rfl, cal_95⟩, rfl, gw_94, gw_95, gw_96, _, rfl, rfl⟩) <| 
  mA0 rfl <| 
  mA1 rfl (⟨_, rfl, Nat.le_of_ble_eq_true rfl, gw_101, rfl⟩) <| 
  mA0 rfl <| 
  mA1 rfl (⟨⟨Nat.le_of_ble_eq_true rfl, Nat.le_of_ble_eq_true rfl, Nat.le_of_ble_eq_true rfl, cal_95⟩, rfl, gw_94, gw_95, gw_96, _, rfl, rfl⟩) <| 
  mA0 rfl <| 
  mA1 rfl (⟨_, rfl, Nat.le_of_ble_eq_true rfl, gw_102, rfl⟩) <| 
  mA0 rfl <| 
  mA1 rfl (⟨⟨Nat.le_of_ble_eq_true rfl, Nat.le_of_ble_eq_true rfl, Nat.le_of_ble_eq_true rfl, cal_95⟩, rfl, gw_94, gw_95, gw_96, _, rfl, rfl⟩) <| 
  mA1 rfl (⟨⟨Nat.le_of_ble_eq_true rfl, Nat.le_of_ble_eq_true rfl, Nat.le_of_ble_eq_true rfl, cal_37⟩, rfl, gw_596, gw_535, gw_536, _, rfl, rfl⟩) <| 
  mA0 rfl <| 
  mA0 rfl <| 
  mA1 rfl (rfl) <| trivial

theorem mc_116 : mAllP 116 mt_116 :=
  mA0 rfl <| 
  mA1 rfl (⟨_, rfl, Nat.le_of_ble_eq_true rfl, gw_105, rfl⟩) <| 
  mA1 rfl (⟨⟨Nat.le_of_ble_eq_true rfl, Nat.le_of_ble_eq_true rfl, Nat.le_of_ble_eq_true rfl, cal_93⟩, rfl, gw_90, gw_91, gw_92, _, rfl, rfl⟩) <| 
  mA0 rfl <| 
  mA0 rfl <| 
  mA0 rfl <| 
  mA0 rfl <| 
  mA0 rfl <| 
  mA0 rfl <| 
  mA0 rfl <| 
  mA0 rfl <| 
  mA0 rfl <| 
  mA1 rfl (⟨⟨Nat.le_of_ble_eq_true rfl, Nat.le_of_ble_eq_true rfl, Nat.le_of_ble_eq_true rfl, cal_117⟩, gw_899, Or.inl gw_898⟩) <| 
  mA0 rfl <| 
  mA0 rfl <| 
  mA1 rfl (Or.inr ⟨by decide, rfl⟩) <| 
  mA0 rfl <| 
  mA0 rfl <| 
  mA0 rfl <| 
  mA0 rfl <| 
  mA0 rfl <| 
  mA0 rfl <| 
  mA1 rfl (⟨⟨Nat.le_of_ble_eq_true rfl, Nat.le_of_ble_eq_true rfl, Nat.le_of_ble_eq_true rfl, cal_118⟩, rfl, gw_903, gw_905, gs_118, _, rfl, rfl⟩) <| 
  mA0 rfl <| 
  mA0 rfl <| 
  mA1 rfl (⟨_, rfl, Nat.le_of_ble_eq_true rfl, gw_98, rfl⟩) <| 
  mA0 rfl <| 
  mA1 rfl (⟨⟨Nat.le_of_ble_eq_true rfl, Nat.le_of_ble_eq_true rfl, Nat.le_of_ble_eq_true rfl, cal_104⟩, rfl, gw_907, gw_908, gw_909, _, rfl, rfl⟩) <| 
  mA1 rfl (Or.inr ⟨by decide, rfl⟩) <| trivial

theorem mc_117 : mAllP 117 mt_117 :=
  mA0 rfl <| 
  mA0 rfl <| 
  mA0 rfl <| 
  mA0 rfl <| 
  mA1 rfl (⟨⟨Nat.le_of_ble_eq_true rfl, Nat.le_of_ble_eq_true rfl, Nat.le_of_ble_eq_true rfl, cal_186⟩, gw_590, Or.inr ⟨rfl, (fun E => ⟨(100000, 0), rfl, mNone _⟩), _, List.mem_of_getElem? (i := 13) rfl⟩⟩) <| 
  mA0 rfl <| 
  mA0 rfl <| 
  mA0 rfl <| 
  mA1 rfl (⟨⟨Nat.le_of_ble_eq_true rfl, Nat.le_of_ble_eq_true rfl, Nat.le_of_ble_eq_true rfl, cal_187⟩, gw_593, Or.inr ⟨rfl, (fun E => ⟨(100000, 0), rfl, mNone _⟩), _, List.mem_of_getElem? (i := 14) rfl⟩⟩) <| 
  mA1 rfl (⟨⟨Nat.le_of_ble_eq_true rfl, Nat.le_of_ble_eq_true rfl, Nat.le_of_ble_eq_true rfl, cal_178⟩, gw_844, Or.inr ⟨rfl, (fun E => ⟨(100000, 0), rfl, mNone _⟩), _, List.mem_of_getElem? (i := 18) rfl⟩⟩) <| 
  mA0 rfl <| 
  mA0 rfl <| 
  mA0 rfl <| 
  mA1 rfl (⟨⟨Nat.le_of_ble_eq_true rfl, Nat.le_of_ble_eq_true rfl, Nat.le_of_ble_eq_true rfl, cal_187⟩, gw_593, Or.inr ⟨rfl, (fun E => ⟨(100000, 0), rfl, mNone _⟩), _, List.mem_of_getElem? (i := 14) rfl⟩⟩) <| 
  mA1 rfl (⟨⟨Nat.le_of_ble_eq_true rfl, Nat.le_of_ble_eq_true rfl, Nat.le_of_ble_eq_true rfl, cal_179⟩, gw_520, Or.inr ⟨rfl, (fun E => ⟨(100000, 0), rfl, mNone _⟩), _, List.mem_of_getElem? (i := 19) rfl⟩⟩) <| 
  mA0 rfl <| 
  mA0 rfl <| 
  mA1 rfl (Or.inr ⟨by decide, rfl⟩) <| 
  mA0 rfl <| 
  mA0 rfl <| 
  mA0 rfl <| 
  mA1 rfl (⟨⟨Nat.le_of_ble_eq_true rfl, Nat.le_of_ble_eq_true rfl, Nat.le_of_ble_eq_true rfl, cal_186⟩, gw_590, Or.inr ⟨rfl, (fun E => ⟨(100000, 0), rfl, mNone _⟩), _, List.mem_of_getElem? (i := 13) rfl⟩⟩) <| 
  mA0 rfl <| 
  mA0 rfl <| 
  mA0 rfl <| 
  mA1 rfl (⟨⟨Nat.le_of_ble_eq_true rfl, Nat.le_of_ble_eq_true rfl, Nat.le_of_ble_eq_true rfl, cal_187⟩, gw_593, Or.inr ⟨rfl, (fun E => ⟨(100000, 0), rfl, mNone _⟩), _, List.mem_of_getElem? (i := 14) rfl⟩⟩) <| 
  mA1 rfl (⟨⟨Nat.le_of_ble_eq_true rfl, Nat.le_of_ble_eq_true rfl, Nat.le_of_ble_eq_true rfl, cal_178⟩, gw_844, Or.inr ⟨rfl, (fun E => ⟨(100000, 0), rfl, mNone _⟩), _, List.mem_of_getElem? (i := 18) rfl⟩⟩) <| 
  mA0 rfl <| 
  mA0 rfl <| 
  mA0 rfl <| 
  mA0 rfl <| 
  mA1 rfl (Or.inr ⟨by decide, rfl⟩) <| trivial

theorem mc_118 : mAllP 118 mt_118 :=
  mA0 rfl <| 
  mA0 rfl <| 
  mA0 rfl <| 
  mA0 rfl <| 
  mA1 rfl (⟨⟨Nat.le_of_ble_eq_true rfl, Nat.le_of_ble_eq_true rfl, Nat.le_of_ble_eq_true rfl, cal_186⟩, gw_590, Or.inr ⟨rfl, (fun E => ⟨(100000, 0), rfl, mNone _⟩), _, List.mem_of_getElem? (i := 13) rfl⟩⟩) <| 
  mA0 rfl <| 
  mA0 rfl <| 
  mA0 rfl <| 
  mA1 rfl (⟨⟨Nat.le_of_ble_eq_true rfl, Nat.le_of_ble_eq_true rfl, Nat.le_of_ble_eq_true rfl, cal_187⟩, gw_593, Or.inr ⟨rfl, (fun E => ⟨(100000, 0), rfl, mNone _⟩), _, List.mem_of_getElem? (i := 14) rfl⟩⟩) <| 
  mA1 rfl (⟨⟨Nat.le_of_ble_eq_true rfl, Nat.le_of_ble_eq_true rfl, Nat.le_of_ble_eq_true rfl, cal_185⟩, gw_76, Or.inr ⟨rfl, (fun E => ⟨(100000, 0), rfl, mNone _⟩), _, List.mem_of_getElem? (i := 0) rfl⟩⟩) <| 
  mA0 rfl <| 
  mA0 rfl <| 
  mA0 rfl <| 
  mA1 rfl (⟨⟨Nat.le_of_ble_eq_true rfl, Nat.le_of_ble_eq_true rfl, Nat.le_of_ble_eq_true rfl, cal_187⟩, gw_593, Or.inr ⟨rfl, (fun E => ⟨(100000, 0), rfl, mNone _⟩), _, List.mem_of_getElem? (i := 14) rfl⟩⟩) <| 
  mA1 rfl (⟨⟨Nat.le_of_ble_eq_true rfl, Nat.le_of_ble_eq_true rfl, Nat.le_of_ble_eq_true rfl, cal_178⟩, gw_844, Or.inr ⟨rfl, (fun E => ⟨(100000, 0), rfl, mNone _⟩), _, List.mem_of_getElem? (i := 18) rfl⟩⟩) <| 
  mA0 rfl <| 
  mA0 rfl <| 
  mA1 rfl (⟨_, rfl, Nat.le_of_ble_eq_true rfl, gw_98, rfl⟩) <| 
  mA0 rfl <| 
  mA1 rfl (⟨⟨Nat.le_of_ble_eq_true rfl, Nat.le_of_ble_eq_true rfl, Nat.le_of_ble_eq_true rfl, cal_104⟩, rfl, gw_907, gw_908, gw_909, _, rfl, rfl⟩) <| 
  mA0 rfl <| 
  mA0 rfl <| 
  mA0 rfl <| 
  mA0 rfl <| 
  mA0 rfl <| 
  mA1 rfl (Or.inr ⟨by decide, rfl⟩) <| 
  mA0 rfl <| 
  mA0 rfl <| 
  mA0 rfl <| 
  mA1 rfl (⟨⟨Nat.le_of_ble_eq_true rfl, Nat.le_of_ble_eq_true rfl, Nat.le_of_ble_eq_true rfl, cal_186⟩, gw_590, Or.inr ⟨rfl, (fun E => ⟨(100000, 0), rfl, mNone _⟩), _, List.mem_of_getElem? (i := 13) rfl⟩⟩) <| 
  mA0 rfl <| 
  mA0 rfl <| 
  mA0 rfl <| 
  mA0 rfl <| 
  mA1 rfl (⟨⟨Nat.le_of_ble_eq_true rfl, Nat.le_of_ble_eq_true rfl, Nat.le_of_ble_eq_true rfl, cal_119⟩, rfl, gw_912, gw_914, gs_119, _, rfl, rfl⟩) <| 
  mA0 rfl <| 
  mA0 rfl <| 
  mA0 rfl <| 
  mA0 rfl <| 
  mA1 rfl (Or.inr ⟨by decide, rfl⟩) <| trivial

theorem mc_119 : mAllP 119 mt_119 :=
  mA0 rfl <| 
  mA0 rfl <| 
  mA0 rfl <| 
  mA0 rfl <| 
  mA1 rfl (⟨_, rfl, Nat.le_of_ble_eq_true rfl, gw_103, rfl⟩) <| 
  mA1 rfl (⟨⟨Nat.le_of_ble_eq_true rfl, Nat.le_of_ble_eq_true rfl, Nat.le_of_ble_eq_true rfl, cal_93⟩, rfl, gw_90, gw_91, gw_92, _, rfl, rfl⟩) <| 
  mA0 rfl <| 
  mA0 rfl <| 
  mA1 rfl (⟨_, rfl, Nat.le_of_ble_eq_true rfl, gw_104, rfl⟩) <| 
  mA0 rfl <| 
  mA1 rfl (⟨⟨Nat.le_of_ble_eq_true rfl, Nat.le_of_ble_eq_true rfl, Nat.le_of_ble_eq_true rfl, cal_95⟩, rfl, gw_94, gw_95, gw_96, _, rfl, rfl⟩) <| 
  mA0 rfl <| 
  mA0 rfl <| 
  mA0 rfl <| 
  mA0 rfl <| 
  mA0 rfl <| 
  mA1 rfl (⟨⟨Nat.le_of_ble_eq_true rfl, Nat.le_of_ble_eq_true rfl, Nat.le_of_ble_eq_true rfl, cal_186⟩, gw_590, Or.inr ⟨rfl, (fun E => ⟨(100000, 0), rfl, mNone _⟩), _, List.mem_of_getElem? (i := 13) rfl⟩⟩) <| 
  mA0 rfl <| 
  mA0 rfl <| 
  mA0 rfl <| 
  mA1 rfl (⟨⟨Nat.le_of_ble_eq_true rfl, Nat.le_of_ble_eq_true rfl, Nat.le_of_ble_eq_true rfl, cal_187⟩, gw_593, Or.inr ⟨rfl, (fun E => ⟨(100000, 0), rfl, mNone _⟩), _, List.mem_of_getElem? (i := 14) rfl⟩⟩) <| 
  mA1 rfl (⟨⟨Nat.le_of_ble_eq_true rfl, Nat.le_of_ble_eq_true rfl, Nat.le_of_ble_eq_true rfl, cal_185⟩, gw_76, Or.inr ⟨rfl, (fun E => ⟨(100000, 0), rfl, mNone _⟩), _, List.mem_of_getElem? (i := 0) rfl⟩⟩) <| 
  mA0 rfl <| 
  mA0 rfl <| 
  mA0 rfl <| 
  mA1 rfl (Or.inr ⟨by decide, rfl⟩) <| 
  mA0 rfl <| 
  mA0 rfl <| 
  mA0 rfl <| 
  mA0 rfl <| 
  mA0 rfl <| 
  mA1 rfl (Or.inr ⟨by decide, rfl⟩) <| trivial

theorem mc_120 : mAllP 120 mt_120 :=
  mA0 rfl <| 
  mA0 rfl <| 
  mA1 rfl (⟨⟨Nat.le_of_ble_eq_true rfl, Nat.le_of_ble_eq_true rfl, Nat.le_of_ble_eq_true rfl, cal_121⟩, rfl, gw_921, gw_923, gs_121, _, rfl, rfl⟩) <| 
  mA0 rfl <| 
  mA0 rfl <| 
  mA1 rfl (⟨⟨Nat.le_of_ble_eq_true rfl, Nat.le_of_ble_eq_true rfl, Nat.le_of_ble_eq_true rfl, cal_122⟩, rfl, gw_931, gw_933, gs_122, _, rfl, rfl⟩) <| 
  mA0 rfl <| 
  mA0 rfl <| 
  mA0 rfl <| 
  mA0 rfl <| 
  mA1 rfl (⟨_, rfl, Nat.le_of_ble_eq_true rfl, gw_103, rfl⟩) <| 
  mA0 rfl <| 
  mA1 rfl (⟨⟨Nat.le_of_ble_eq_true rfl, Nat.le_of_ble_eq_true rfl, Nat.le_of_ble_eq_true rfl, cal_97⟩, rfl, gw_78, gw_79, gw_80, _, rfl, rfl⟩) <| 
  mA0 rfl <| 
  mA1 rfl (⟨_, rfl, Nat.le_of_ble_eq_true rfl, gw_104, rfl⟩) <| 
  mA0 rfl <| 
  mA1 rfl (⟨⟨Nat.le_of_ble_eq_true rfl, Nat.le_of_ble_eq_true rfl, Nat.le_of_ble_eq_true rfl, cal_97⟩, rfl, gw_78, gw_79, gw_80, _, rfl, rfl⟩) <| 
  mA0 rfl <| 
  mA0 rfl <| 
  mA0 rfl <| 
  mA0 rfl <| 
  mA0 rfl <| 
  mA0 rfl <| 
  mA0 rfl <| 
  mA0 rfl <| 
  mA0 rfl <| 
  mA0 rfl <| 
  mA0 rfl <| 
  mA0 rfl <| 
  mA1 rfl (⟨⟨Nat.le_of_ble_eq_true rfl, Nat.le_of_ble_eq_true rfl, Nat.le_of_ble_eq_true rfl, cal_124⟩, rfl, gw_935, gw_937, gs_124, _, rfl, rfl⟩) <| 
  mA0 rfl <| 
  mA0 rfl <| 
  mA0 rfl <| 
  mA0 rfl <| 
  mA0 rfl <| 
  mA0 rfl <| 
  mA0 rfl <| 
  mA0 rfl <| 
  mA0 rfl <| 
  mA1 rfl (⟨⟨Nat.le_of_ble_eq_true rfl, Nat.le_of_ble_eq_true rfl, Nat.le_of_ble_eq_true rfl, cal_123⟩, rfl, gw_940, gw_942, gs_123, _, rfl, rfl⟩) <| 
  mA0 rfl <| 
  mA1 rfl (⟨_, rfl, Nat.le_of_ble_eq_true rfl, gw_105, rfl⟩) <| 
  mA0 rfl <| 
  mA1 rfl (⟨⟨Nat.le_of_ble_eq_true rfl, Nat.le_of_ble_eq_true rfl, Nat.le_of_ble_eq_true rfl, cal_97⟩, rfl, gw_78, gw_79, gw_80, _, rfl, rfl⟩) <| 
  mA0 rfl <| 
  mA1 rfl (⟨_, rfl, Nat.le_of_ble_eq_true rfl, gw_106, rfl⟩) <| 
  mA0 rfl <| 
  mA1 rfl (⟨⟨Nat.le_of_ble_eq_true rfl, Nat.le_of_ble_eq_true rfl, Nat.le_of_ble_eq_true rfl, cal_97⟩, rfl, gw_78, gw_79, gw_80, _, rfl, rfl⟩) <| 
  mA0 rfl <| 
  mA1 rfl (⟨_, rfl, Nat.le_of_ble_eq_true rfl, gw_107, rfl⟩) <| 
  mA0 rfl <| 
  mA1 rfl (⟨⟨Nat.le_of_ble_eq_true rfl, Nat.le_of_ble_eq_true rfl, Nat.le_of_ble_eq_true rfl, cal_97⟩, rfl, gw_78, gw_79, gw_80, _, rfl, rfl⟩) <| 
  mA0 rfl <| 
  mA1 rfl (⟨⟨Nat.le_of_ble_eq_true rfl, Nat.le_of_ble_eq_true rfl, Nat.le_of_ble_eq_true rfl, cal_107⟩, rfl, gw_82, gw_84, gs_107, _, rfl, rfl⟩) <| 
  mA1 rfl (rfl) <| trivial

theorem mc_121 : mAllP 121 mt_121 :=
  mA0 rfl <| 
  mA1 rfl (⟨_, rfl, Nat.le_of_ble_eq_true rfl, gw_98, rfl⟩) <| 
  mA0 rfl <| 
  mA1 rfl (⟨⟨Nat.le_of_ble_eq_true rfl, Nat.le_of_ble_eq_true rfl, Nat.le_of_ble_eq_true rfl, cal_103⟩, rfl, gw_554, gw_555, gw_556, _, rfl, rfl⟩) <| 
  mA0 rfl <| 
  mA0 rfl <| 
  mA0 rfl <| 
  mA0 rfl <| 
  mA0 rfl <| 
  mA1 rfl (⟨_, rfl, Nat.le_of_ble_eq_true rfl, gw_99, rfl⟩) <| 
  mA0 rfl <| 
  mA0 rfl <| 
  mA0 rfl <| 
  mA0 rfl <| 
  mA1 rfl (⟨_, rfl, Nat.le_of_ble_eq_true rfl, gw_99, rfl⟩) <| 
  mA0 rfl <| 
  mA1 rfl (⟨⟨Nat.le_of_ble_eq_true rfl, Nat.le_of_ble_eq_true rfl, Nat.le_of_ble_eq_true rfl, cal_95⟩, rfl, gw_94, gw_95, gw_96, _, rfl, rfl⟩) <| 
  mA0 rfl <| 
  mA1 rfl (⟨_, rfl, Nat.le_of_ble_eq_true rfl, gw_99, rfl⟩) <| 
  mA0 rfl <| 
  mA0 rfl <| 
  mA0 rfl <| 
  mA1 rfl (⟨⟨Nat.le_of_ble_eq_true rfl, Nat.le_of_ble_eq_true rfl, Nat.le_of_ble_eq_true rfl, cal_95⟩, rfl, gw_94, gw_95, gw_96, _, rfl, rfl⟩) <| 
  mA1 rfl (⟨⟨Nat.le_of_ble_eq_true rfl, Nat.le_of_ble_eq_true rfl, Nat.le_of_ble_eq_true rfl, cal_330⟩, gw_646, Or.inl gw_925⟩) <| 
  mA1 rfl (⟨⟨Nat.le_of_ble_eq_true rfl, Nat.le_of_ble_eq_true rfl, Nat.le_of_ble_eq_true rfl, cal_96⟩, rfl, gw_926, gw_531, gw_532, _, rfl, rfl⟩) <| 
  mA0 rfl <| 
  mA1 rfl (⟨_, rfl, Nat.le_of_ble_eq_true rfl, gw_98, rfl⟩) <| 
  mA0 rfl <| 
  mA1 rfl (⟨⟨Nat.le_of_ble_eq_true rfl, Nat.le_of_ble_eq_true rfl, Nat.le_of_ble_eq_true rfl, cal_99⟩, rfl, gw_927, gw_928, gw_929, _, rfl, rfl⟩) <| 
  mA0 rfl <| 
  mA1 rfl (⟨_, rfl, Nat.le_of_ble_eq_true rfl, gw_99, rfl⟩) <| 
  mA0 rfl <| 
  mA1 rfl (⟨⟨Nat.le_of_ble_eq_true rfl, Nat.le_of_ble_eq_true rfl, Nat.le_of_ble_eq_true rfl, cal_99⟩, rfl, gw_927, gw_928, gw_929, _, rfl, rfl⟩) <| 
  mA1 rfl (rfl) <| trivial

theorem mc_122 : mAllP 122 mt_122 :=
  mA0 rfl <| 
  mA1 rfl (⟨_, rfl, Nat.le_of_ble_eq_true rfl, gw_103, rfl⟩) <| 
  mA0 rfl <| 
  mA1 rfl (⟨⟨Nat.le_of_ble_eq_true rfl, Nat.le_of_ble_eq_true rfl, Nat.le_of_ble_eq_true rfl, cal_103⟩, rfl, gw_554, gw_555, gw_556, _, rfl, rfl⟩) <| 
  mA0 rfl <| 
  mA0 rfl <| 
  mA1 rfl (⟨_, rfl, Nat.le_of_ble_eq_true rfl, gw_103, rfl⟩) <| 
  mA0 rfl <| 
  mA1 rfl (⟨⟨Nat.le_of_ble_eq_true rfl, Nat.le_of_ble_eq_true rfl, Nat.le_of_ble_eq_true rfl, cal_99⟩, rfl, gw_927, gw_928, gw_929, _, rfl, rfl⟩) <| 
  mA0 rfl <| 
  mA1 rfl (⟨_, rfl, Nat.le_of_ble_eq_true rfl, gw_104, rfl⟩) <| 
  mA0 rfl <| 
  mA1 rfl (⟨⟨Nat.le_of_ble_eq_true rfl, Nat.le_of_ble_eq_true rfl, Nat.le_of_ble_eq_true rfl, cal_99⟩, rfl, gw_927, gw_928, gw_929, _, rfl, rfl⟩) <| 
  mA1 rfl (rfl) <| trivial

theorem mc_123 : mAllP 123 mt_123 :=
  mA0 rfl <| 
  mA1 rfl (⟨_, rfl, Nat.le_of_ble_eq_true rfl, gw_98, rfl⟩) <| 
  mA0 rfl <| 
  mA1 rfl (⟨⟨Nat.le_of_ble_eq_true rfl, Nat.le_of_ble_eq_true rfl, Nat.le_of_ble_eq_true rfl, cal_103⟩, rfl, gw_554, gw_555, gw_556, _, rfl, rfl⟩) <| 
  mA0 rfl <| 
  mA0 rfl <| 
  mA0 rfl <| 
  mA0 rfl <| 
  mA0 rfl <| 
  mA1 rfl (⟨_, rfl, Nat.le_of_ble_eq_true rfl, gw_98, rfl⟩) <| 
  mA1 rfl (⟨⟨Nat.le_of_ble_eq_true rfl, Nat.le_of_ble_eq_true rfl, Nat.le_of_ble_eq_true rfl, cal_93⟩, rfl, gw_90, gw_91, gw_92, _, rfl, rfl⟩) <| 
  mA0 rfl <| 
  mA0 rfl <| 
  mA1 rfl (⟨_, rfl, Nat.le_of_ble_eq_true rfl, gw_99, rfl⟩) <| 
  mA0 rfl <| 
  mA1 rfl (⟨⟨Nat.le_of_ble_eq_true rfl, Nat.le_of_ble_eq_true rfl, Nat.le_of_ble_eq_true rfl, cal_95⟩, rfl, gw_94, gw_95, gw_96, _, rfl, rfl⟩) <| 
  mA0 rfl <| 
  mA0 rfl <| 
  mA0 rfl <| 
  mA0 rfl <| 
  mA0 rfl <| 
  mA1 rfl (⟨_, rfl, Nat.le_of_ble_eq_true rfl, gw_98, rfl⟩) <| 
  mA0 rfl <| 
  mA0 rfl <| 
  mA1 rfl (⟨⟨Nat.le_of_ble_eq_true rfl, Nat.le_of_ble_eq_true rfl, Nat.le_of_ble_eq_true rfl, cal_98⟩, rfl, gw_939, gw_652, gw_653, _, rfl, rfl⟩) <| 
  mA0 rfl <| 
  mA1 rfl (⟨_, rfl, Nat.le_of_ble_eq_true rfl, gw_99, rfl⟩) <| 
  mA0 rfl <| 
  mA0 rfl <| 
  mA1 rfl (⟨⟨Nat.le_of_ble_eq_true rfl, Nat.le_of_ble_eq_true rfl, Nat.le_of_ble_eq_true rfl, cal_98⟩, rfl, gw_939, gw_652, gw_653, _, rfl, rfl⟩) <| 
  mA1 rfl (rfl) <| trivial

theorem mc_124 : mAllP 124 mt_124 :=
  mA0 rfl <| 
  mA1 rfl (⟨_, rfl, Nat.le_of_ble_eq_true rfl, gw_98, rfl⟩) <| 
  mA0 rfl <| 
  mA1 rfl (⟨⟨Nat.le_of_ble_eq_true rfl, Nat.le_of_ble_eq_true rfl, Nat.le_of_ble_eq_true rfl, cal_103⟩, rfl, gw_554, gw_555, gw_556, _, rfl, rfl⟩) <| 
  mA0 rfl <| 
  mA0 rfl <| 
  mA0 rfl <| 
  mA0 rfl <| 
  mA1 rfl (⟨_, rfl, Nat.le_of_ble_eq_true rfl, gw_99, rfl⟩) <| 
  mA0 rfl <| 
  mA1 rfl (⟨⟨Nat.le_of_ble_eq_true rfl, Nat.le_of_ble_eq_true rfl, Nat.le_of_ble_eq_true rfl, cal_95⟩, rfl, gw_94, gw_95, gw_96, _, rfl, rfl⟩) <| 
  mA0 rfl <| 
  mA0 rfl <| 
  mA0 rfl <| 
  mA0 rfl <| 
  mA0 rfl <| 
  mA1 rfl (⟨_, rfl, Nat.le_of_ble_eq_true rfl, gw_98, rfl⟩) <| 
  mA0 rfl <| 
  mA0 rfl <| 
  mA1 rfl (⟨⟨Nat.le_of_ble_eq_true rfl, Nat.le_of_ble_eq_true rfl, Nat.le_of_ble_eq_true rfl, cal_98⟩, rfl, gw_939, gw_652, gw_653, _, rfl, rfl⟩) <| 
  mA0 rfl <| 
  mA1 rfl (⟨_, rfl, Nat.le_of_ble_eq_true rfl, gw_99, rfl⟩) <| 
  mA0 rfl <| 
  mA0 rfl <| 
  mA1 rfl (⟨_, rfl, Nat.le_of_ble_eq_true rfl, gw_99, rfl⟩) <| 
  mA0 rfl <| 
  mA1 rfl (⟨⟨Nat.le_of_ble_eq_true rfl, Nat.le_of_ble_eq_true rfl, Nat.le_of_ble_eq_true rfl, cal_95⟩, rfl, gw_94, gw_95, gw_96, _, rfl, rfl⟩) <| 
  mA1 rfl (⟨⟨Nat.le_of_ble_eq_true rfl, Nat.le_of_ble_eq_true rfl, Nat.le_of_ble_eq_true rfl, cal_98⟩, rfl, gw_939, gw_652, gw_653, _, rfl, rfl⟩) <| 
  mA0 rfl <| 
  mA1 rfl (⟨_, rfl, Nat.le_of_ble_eq_true rfl, gw_99, rfl⟩) <| 
  mA0 rfl <| 
  mA0 rfl <| 
  mA0 rfl <| 
  mA0 rfl <| 
  mA1 rfl (⟨⟨Nat.le_of_ble_eq_true rfl, Nat.le_of_ble_eq_true rfl, Nat.le_of_ble_eq_true rfl, cal_96⟩, rfl, gw_926, gw_531, gw_532, _, rfl, rfl⟩) <| 
  mA1 rfl (rfl) <| trivial

theorem mc_125 : mAllP 125 mt_125 :=
  trivial

theorem mc_126 : mAllP 126 mt_126 :=
  trivial

theorem mc_127_0 : mAllP 127 mt_127_0 :=
  mA0 rfl <| 
  mA1 rfl (⟨gw_25, gw_26, gw_27, Nat.le_of_ble_eq_true rfl, Nat.le_of_ble_eq_true rfl⟩) <| 
  mA0 rfl <| 
  mA1 rfl (⟨_, rfl, gw_28, gw_29, gw_2⟩) <| 
  mA0 rfl <| 
  mA1 rfl (⟨⟨Nat.le_of_ble_eq_true rfl, Nat.le_of_ble_eq_true rfl, Nat.le_of_ble_eq_true rfl, cal_12⟩, rfl, rfl, (fun E => ⟨(100000, 0), rfl, mNone _⟩), gw_31, rfl, Or.inl gw_30⟩) <| 
  mA1 rfl (⟨_, rfl, Nat.le_of_ble_eq_true rfl, gw_300, rfl, Or.inr ⟨rfl, ini_127, rfl⟩⟩) <| 
  mA0 rfl <| 
  mA1 rfl (⟨_, rfl, gw_45, gw_46, gw_3⟩) <| 
  mA0 rfl <| 
  mA0 rfl <| 
  mA1 rfl (⟨⟨Nat.le_of_ble_eq_true rfl, Nat.le_of_ble_eq_true rfl, Nat.le_of_ble_eq_true rfl, cal_92⟩, rfl, rfl, (fun E => ⟨(100000, 0), rfl, mNone _⟩), gw_48, rfl, Or.inl gw_47⟩) <| 
  mA1 rfl (⟨_, rfl, Nat.le_of_ble_eq_true rfl, gw_301, rfl, Or.inr ⟨rfl, ini_127, rfl⟩⟩) <| 
  mA0 rfl <| 
  mA1 rfl (⟨_, rfl, gw_45, gw_46, gw_3⟩) <| 
  mA0 rfl <| 
  mA0 rfl <| 
  mA1 rfl (⟨⟨Nat.le_of_ble_eq_true rfl, Nat.le_of_ble_eq_true rfl, Nat.le_of_ble_eq_true rfl, cal_92⟩, rfl, rfl, (fun E => ⟨(100000, 0), rfl, mNone _⟩), gw_48, rfl, Or.inl gw_47⟩) <| 
  mA1 rfl (⟨_, rfl, Nat.le_of_ble_eq_true rfl, gw_302, rfl, Or.inr ⟨rfl, ini_127, rfl⟩⟩) <| 
  mA0 rfl <| 
  mA0 rfl <| 
  mA1 rfl (⟨Nat.le_of_ble_eq_true rfl, Nat.le_of_ble_eq_true rfl, _, rfl, gw_45⟩) <| 
  mA1 rfl (⟨_, rfl, Nat.le_of_ble_eq_true rfl, gw_303, rfl, Or.inr ⟨rfl, ini_127, rfl⟩⟩) <| 
  mA0 rfl <| 
  mA0 rfl <| 
  mA1 rfl (⟨Nat.le_of_ble_eq_true rfl, Nat.le_of_ble_eq_true rfl, _, rfl, gw_62⟩) <| 
  mA1 rfl (⟨_, rfl, Nat.le_of_ble_eq_true rfl, gw_305, rfl, Or.inr ⟨rfl, ini_127, rfl⟩⟩) <| 
  mA0 rfl <| 
  mA1 rfl (⟨_, rfl, gw_62, gw_64, gw_5⟩) <| 
  mA0 rfl <| 
  mA1 rfl (⟨⟨Nat.le_of_ble_eq_true rfl, Nat.le_of_ble_eq_true rfl, Nat.le_of_ble_eq_true rfl, cal_105⟩, rfl, rfl, (fun E => ⟨(100000, 0), rfl, mNone _⟩), gw_66, rfl, Or.inl gw_65⟩) <| 
  mA1 rfl (⟨_, rfl, Nat.le_of_ble_eq_true rfl, gw_306, rfl, Or.inr ⟨rfl, ini_127, rfl⟩⟩) <| 
  mA0 rfl <| 
  mA0 rfl <| 
  mA1 rfl (gw_132) <| 
  mA1 rfl (⟨_, rfl, Nat.le_of_ble_eq_true rfl, gw_307, rfl, Or.inr ⟨rfl, ini_127, rfl⟩⟩) <| 
  mA0 rfl <| 
  mA0 rfl <| 
  mA1 rfl (⟨Nat.le_of_ble_eq_true rfl, Nat.le_of_ble_eq_true rfl, _, rfl, gw_133⟩) <| 
  mA1 rfl (⟨_, rfl, Nat.le_of_ble_eq_true rfl, gw_308, rfl, Or.inr ⟨rfl, ini_127, rfl⟩⟩) <| 
  mA0 rfl <| 
  mA0 rfl <| 
  mA1 rfl (⟨Nat.le_of_ble_eq_true rfl, Nat.le_of_ble_eq_true rfl, _, rfl, gw_135⟩) <| 
  mA1 rfl (⟨_, rfl, Nat.le_of_ble_eq_true rfl, gw_310, rfl, Or.inr ⟨rfl, ini_127, rfl⟩⟩) <| 
  mA0 rfl <| 
  mA1 rfl (⟨_, rfl, gw_137, gw_138, gw_6⟩) <| 
  mA0 rfl <| 
  mA1 rfl (⟨⟨Nat.le_of_ble_eq_true rfl, Nat.le_of_ble_eq_true rfl, Nat.le_of_ble_eq_true rfl, cal_24⟩, rfl, rfl, (fun E => ⟨(100000, 0), rfl, mNone _⟩), gw_140, rfl, Or.inl gw_139⟩) <| 
  mA1 rfl (⟨_, rfl, Nat.le_of_ble_eq_true rfl, gw_311, rfl, Or.inr ⟨rfl, ini_127, rfl⟩⟩) <| 
  mA0 rfl <| 
  mA1 rfl (⟨_, rfl, gw_155, gw_156, gw_7⟩) <| 
  mA0 rfl <| 
  mA1 rfl (⟨⟨Nat.le_of_ble_eq_true rfl, Nat.le_of_ble_eq_true rfl, Nat.le_of_ble_eq_true rfl, cal_86⟩, rfl, rfl, (fun E => ⟨(100000, 0), rfl, mNone _⟩), gw_158, rfl, Or.inr ⟨_, List.mem_of_getElem? (i := 1) rfl⟩⟩) <| 
  mA1 rfl (⟨_, rfl, Nat.le_of_ble_eq_true rfl, gw_312, rfl, Or.inr ⟨rfl, ini_127, rfl⟩⟩) <| 
  mA0 rfl <| 
  mA0 rfl <| 
  mA1 rfl (⟨_, rfl, Nat.le_of_ble_eq_true rfl, gw_313, rfl, Or.inl rfl⟩) <| 
  mA0 rfl <| 
  mA0 rfl <| 
  mA1 rfl (⟨_, rfl, Nat.le_of_ble_eq_true rfl, gw_314, rfl, Or.inl rfl⟩) <| 
  mA0 rfl <| 
  mA1 rfl (⟨_, rfl, gw_170, gw_171, gw_8⟩) <| 
  mA0 rfl <| 
  mA1 rfl (⟨⟨Nat.le_of_ble_eq_true rfl, Nat.le_of_ble_eq_true rfl, Nat.le_of_ble_eq_true rfl, cal_0⟩, rfl, rfl, (fun E => ⟨(100000, 0), rfl, mNone _⟩), gw_173, rfl, Or.inr ⟨_, List.mem_of_getElem? (i := 2) rfl⟩⟩) <| 
  mA1 rfl (⟨_, rfl, Nat.le_of_ble_eq_true rfl, gw_315, rfl, Or.inr ⟨rfl, ini_127, rfl⟩⟩) <| 
  mA0 rfl <| 
  mA0 rfl <| 
  mA1 rfl (⟨Nat.le_of_ble_eq_true rfl, Nat.le_of_ble_eq_true rfl, _, rfl, gw_45⟩) <| 
  mA1 rfl (⟨_, rfl, Nat.le_of_ble_eq_true rfl, gw_316, rfl, Or.inr ⟨rfl, ini_127, rfl⟩⟩) <| 
  mA0 rfl <| 
  mA1 rfl (⟨_, rfl, gw_45, gw_46, gw_3⟩) <| 
  mA0 rfl <| 
  mA0 rfl <| 
  mA1 rfl (⟨⟨Nat.le_of_ble_eq_true rfl, Nat.le_of_ble_eq_true rfl, Nat.le_of_ble_eq_true rfl, cal_92⟩, rfl, rfl, (fun E => ⟨(100000, 0), rfl, mNone _⟩), gw_48, rfl, Or.inl gw_47⟩) <| 
  mA1 rfl (⟨_, rfl, Nat.le_of_ble_eq_true rfl, gw_317, rfl, Or.inr ⟨rfl, ini_127, rfl⟩⟩) <| 
  mA0 rfl <| 
  mA1 rfl (⟨_, rfl, gw_45, gw_46, gw_3⟩) <| 
  mA0 rfl <| 
  mA0 rfl <| 
  mA1 rfl (⟨⟨Nat.le_of_ble_eq_true rfl, Nat.le_of_ble_eq_true rfl, Nat.le_of_ble_eq_true rfl, cal_92⟩, rfl, rfl, (fun E => ⟨(100000, 0), rfl, mNone _⟩), gw_48, rfl, Or.inl gw_47⟩) <| 
  mA1 rfl (⟨_, rfl, Nat.le_of_ble_eq_true rfl, gw_318, rfl, Or.inr ⟨rfl, ini_127, rfl⟩⟩) <| 
  mA0 rfl <| 
  mA1 rfl (⟨_, rfl, gw_227, gw_228, gw_10⟩) <| 
  mA0 rfl <| 
  mA1 rfl (⟨⟨Nat.le_of_ble_eq_true rfl, Nat.le_of_ble_eq_true rfl, Nat.le_of_ble_eq_true rfl, cal_71⟩, rfl, rfl, (fun E => ⟨(100000, 0), rfl, mNone _⟩), gw_230, rfl, Or.inr ⟨_, List.mem_of_getElem? (i := 4) rfl⟩⟩) <| 
  mA1 rfl (⟨_, rfl, Nat.le_of_ble_eq_true rfl, gw_319, rfl, Or.inr ⟨rfl, ini_127, rfl⟩⟩) <| 
  mA0 rfl <| 
  mA0 rfl <| 
  mA0 rfl <| 
  mA0 rfl <| 
  mA0 rfl <| 
  mA0 rfl <| 
  mA1 rfl (⟨_, rfl, Nat.le_of_ble_eq_true rfl, gw_303, rfl⟩) <| 
  mA0 rfl <| 
  mA1 rfl (⟨_, rfl, gw_45, gw_46, gw_3⟩) <| 
  mA0 rfl <| 
  mA0 rfl <| 
  mA1 rfl (⟨⟨Nat.le_of_ble_eq_true rfl, Nat.le_of_ble_eq_true rfl, Nat.le_of_ble_eq_true rfl, cal_92⟩, rfl, rfl, (fun E => ⟨(100000, 0), rfl, mNone _⟩), gw_48, rfl, Or.inl gw_47⟩) <| 
  mA1 rfl (⟨Nat.le_of_ble_eq_true rfl, Nat.le_of_ble_eq_true rfl, _, rfl, rfl⟩) <| 
  mA0 rfl <| 
  mA1 rfl (⟨_, rfl, Nat.le_of_ble_eq_true rfl, gw_316, rfl⟩) <| 
  mA0 rfl <| 
  mA1 rfl (⟨_, rfl, gw_45, gw_46, gw_3⟩) <| 
  mA0 rfl <| 
  mA0 rfl <| 
  mA1 rfl (⟨⟨Nat.le_of_ble_eq_true rfl, Nat.le_of_ble_eq_true rfl, Nat.le_of_ble_eq_true rfl, cal_92⟩, rfl, rfl, (fun E => ⟨(100000, 0), rfl, mNone _⟩), gw_48, rfl, Or.inl gw_47⟩) <| 
  mA1 rfl (⟨Nat.le_of_ble_eq_true rfl, Nat.le_of_ble_eq_true rfl, _, rfl, rfl⟩) <| 
  mA0 rfl <| 
  mA0 rfl <| 
  mA0 rfl <| 
  mA0 rfl <| 
  mA0 rfl <| 
  mA0 rfl <| 
  mA0 rfl <| 
  mA0 rfl <| 
  mA1 rfl (⟨_, rfl, Nat.le_of_ble_eq_true rfl, gw_305, rfl⟩) <| 
  mA0 rfl <| 
  mA1 rfl (⟨_, rfl, gw_62, gw_64, gw_5⟩) <| 
  mA0 rfl <| 
  mA1 rfl (⟨⟨Nat.le_of_ble_eq_true rfl, Nat.le_of_ble_eq_true rfl, Nat.le_of_ble_eq_true rfl, cal_105⟩, rfl, rfl, (fun E => ⟨(100000, 0), rfl, mNone _⟩), gw_66, rfl, Or.inl gw_65⟩) <| trivial

theorem mc_127_1 : mAllP 127 mt_127_1 :=
  mA1 rfl (⟨Nat.le_of_ble_eq_true rfl, Nat.le_of_ble_eq_true rfl, _, rfl, rfl⟩) <| 
  mA0 rfl <| 
  mA1 rfl (⟨_, rfl, Nat.le_of_ble_eq_true rfl, gw_310, rfl⟩) <| 
  mA0 rfl <| 
  mA1 rfl (⟨_, rfl, gw_135, gw_245, gw_11⟩) <| 
  mA0 rfl <| 
  mA1 rfl (⟨⟨Nat.le_of_ble_eq_true rfl, Nat.le_of_ble_eq_true rfl, Nat.le_of_ble_eq_true rfl, cal_77⟩, rfl, rfl, (fun E => ⟨(100000, 0), rfl, mNone _⟩), gw_247, rfl, Or.inr ⟨_, List.mem_of_getElem? (i := 5) rfl⟩⟩) <| 
  mA1 rfl (⟨Nat.le_of_ble_eq_true rfl, Nat.le_of_ble_eq_true rfl, _, rfl, rfl⟩) <| 
  mA0 rfl <| 
  mA0 rfl <| 
  mA0 rfl <| 
  mA0 rfl <| 
  mA0 rfl <| 
  mA0 rfl <| 
  mA0 rfl <| 
  mA0 rfl <| 
  mA1 rfl (⟨_, rfl, Nat.le_of_ble_eq_true rfl, gw_308, rfl⟩) <| 
  mA0 rfl <| 
  mA1 rfl (⟨_, rfl, gw_133, gw_265, gw_12⟩) <| 
  mA0 rfl <| 
  mA1 rfl (⟨⟨Nat.le_of_ble_eq_true rfl, Nat.le_of_ble_eq_true rfl, Nat.le_of_ble_eq_true rfl, cal_48⟩, rfl, rfl, (fun E => ⟨(100000, 0), rfl, mNone _⟩), gw_267, rfl, Or.inr ⟨_, List.mem_of_getElem? (i := 6) rfl⟩⟩) <| 
  mA1 rfl (⟨Nat.le_of_ble_eq_true rfl, Nat.le_of_ble_eq_true rfl, _, rfl, rfl⟩) <| 
  mA0 rfl <| 
  mA0 rfl <| 
  mA1 rfl (rfl) <| trivial

theorem mc_128 : mAllP 128 mt_128 :=
  mA0 rfl <| 
  mA0 rfl <| 
  mA1 rfl (⟨⟨Nat.le_of_ble_eq_true rfl, Nat.le_of_ble_eq_true rfl, Nat.le_of_ble_eq_true rfl, cal_165⟩, rfl, gw_821, gw_823, gs_165, _, rfl, rfl⟩) <| 
  mA0 rfl <| 
  mA1 rfl (⟨Nat.le_of_ble_eq_true rfl, rfl, Nat.le_of_ble_eq_true rfl, Nat.le_of_ble_eq_true rfl, gw_374, gw_16, by decide +kernel, 111, 113, "no such sign", List.mem_of_getElem? (i := 8) rfl, at_0, Or.inl ⟨by decide +kernel, by decide +kernel, by decide +kernel⟩⟩) <| 
  mA0 rfl <| 
  mA1 rfl (⟨_, rfl, Nat.le_of_ble_eq_true rfl, gw_301, rfl⟩) <| 
  mA1 rfl (⟨⟨Nat.le_of_ble_eq_true rfl, Nat.le_of_ble_eq_true rfl, Nat.le_of_ble_eq_true rfl, cal_93⟩, rfl, gw_365, gw_91, gw_92, _, rfl, rfl⟩) <| 
  mA0 rfl <| 
  mA0 rfl <| 
  mA1 rfl (⟨Nat.le_of_ble_eq_true rfl, rfl, Nat.le_of_ble_eq_true rfl, Nat.le_of_ble_eq_true rfl, gw_697, gw_17, by decide +kernel, 122, 124, "the draft is full", List.mem_of_getElem? (i := 9) rfl, at_1, Or.inl ⟨by decide +kernel, by decide +kernel, by decide +kernel⟩⟩) <| 
  mA0 rfl <| 
  mA1 rfl (⟨_, rfl, Nat.le_of_ble_eq_true rfl, gw_301, rfl⟩) <| 
  mA0 rfl <| 
  mA1 rfl (⟨⟨Nat.le_of_ble_eq_true rfl, Nat.le_of_ble_eq_true rfl, Nat.le_of_ble_eq_true rfl, cal_97⟩, rfl, gw_494, gw_79, gw_80, _, rfl, rfl⟩) <| 
  mA0 rfl <| 
  mA1 rfl (⟨_, rfl, Nat.le_of_ble_eq_true rfl, gw_301, rfl⟩) <| 
  mA1 rfl (⟨⟨Nat.le_of_ble_eq_true rfl, Nat.le_of_ble_eq_true rfl, Nat.le_of_ble_eq_true rfl, cal_93⟩, rfl, gw_365, gw_91, gw_92, _, rfl, rfl⟩) <| 
  mA1 rfl (Or.inl ⟨rfl, rfl⟩) <| trivial

theorem mc_129 : mAllP 129 mt_129 :=
  mA0 rfl <| 
  mA0 rfl <| 
  mA0 rfl <| 
  mA0 rfl <| 
  mA0 rfl <| 
  mA0 rfl <| 
  mA0 rfl <| 
  mA1 rfl (⟨_, rfl, Nat.le_of_ble_eq_true rfl, gw_300, rfl⟩) <| 
  mA0 rfl <| 
  mA1 rfl (⟨⟨Nat.le_of_ble_eq_true rfl, Nat.le_of_ble_eq_true rfl, Nat.le_of_ble_eq_true rfl, cal_17⟩, rfl, gw_839, gw_840, gw_841, _, rfl, rfl⟩) <| 
  mA0 rfl <| 
  mA0 rfl <| 
  mA1 rfl (⟨⟨Nat.le_of_ble_eq_true rfl, Nat.le_of_ble_eq_true rfl, Nat.le_of_ble_eq_true rfl, cal_179⟩, gw_520, Or.inl gw_581⟩) <| 
  mA0 rfl <| 
  mA1 rfl (⟨Nat.le_of_ble_eq_true rfl, rfl, Nat.le_of_ble_eq_true rfl, Nat.le_of_ble_eq_true rfl, gw_374, gw_16, by decide +kernel, 134, 113, "no such sign, base or mark", List.mem_of_getElem? (i := 10) rfl, at_0, Or.inl ⟨by decide +kernel, by decide +kernel, by decide +kernel⟩⟩) <| 
  mA0 rfl <| 
  mA1 rfl (⟨_, rfl, Nat.le_of_ble_eq_true rfl, gw_300, rfl⟩) <| 
  mA0 rfl <| 
  mA1 rfl (⟨⟨Nat.le_of_ble_eq_true rfl, Nat.le_of_ble_eq_true rfl, Nat.le_of_ble_eq_true rfl, cal_14⟩, rfl, gw_825, gw_826, gw_827, _, rfl, rfl⟩) <| 
  mA0 rfl <| 
  mA0 rfl <| 
  mA1 rfl (⟨_, rfl, Nat.le_of_ble_eq_true rfl, gw_300, rfl⟩) <| 
  mA0 rfl <| 
  mA0 rfl <| 
  mA1 rfl (⟨⟨Nat.le_of_ble_eq_true rfl, Nat.le_of_ble_eq_true rfl, Nat.le_of_ble_eq_true rfl, cal_19⟩, rfl, gw_847, gw_848, gw_849, _, rfl, rfl⟩) <| 
  mA0 rfl <| 
  mA0 rfl <| 
  mA1 rfl (⟨Nat.le_of_ble_eq_true rfl, rfl, Nat.le_of_ble_eq_true rfl, Nat.le_of_ble_eq_true rfl, gw_697, gw_17, by decide +kernel, 143, 124, "composed already", List.mem_of_getElem? (i := 11) rfl, at_1, Or.inl ⟨by decide +kernel, by decide +kernel, by decide +kernel⟩⟩) <| 
  mA0 rfl <| 
  mA1 rfl (⟨_, rfl, Nat.le_of_ble_eq_true rfl, gw_300, rfl⟩) <| 
  mA0 rfl <| 
  mA0 rfl <| 
  mA0 rfl <| 
  mA1 rfl (⟨⟨Nat.le_of_ble_eq_true rfl, Nat.le_of_ble_eq_true rfl, Nat.le_of_ble_eq_true rfl, cal_18⟩, rfl, gw_852, gw_853, gw_854, _, rfl, rfl⟩) <| 
  mA0 rfl <| 
  mA1 rfl (⟨_, rfl, Nat.le_of_ble_eq_true rfl, gw_300, rfl⟩) <| 
  mA1 rfl (⟨⟨Nat.le_of_ble_eq_true rfl, Nat.le_of_ble_eq_true rfl, Nat.le_of_ble_eq_true rfl, cal_13⟩, rfl, gw_856, gw_857, gw_858, _, rfl, rfl⟩) <| 
  mA1 rfl (Or.inl ⟨rfl, rfl⟩) <| trivial

theorem mc_130 : mAllP 130 mt_130 :=
  mA0 rfl <| 
  mA1 rfl (⟨_, rfl, Nat.le_of_ble_eq_true rfl, gw_301, rfl⟩) <| 
  mA1 rfl (⟨⟨Nat.le_of_ble_eq_true rfl, Nat.le_of_ble_eq_true rfl, Nat.le_of_ble_eq_true rfl, cal_94⟩, rfl, gw_779, gw_780, gw_781, _, rfl, rfl⟩) <| 
  mA0 rfl <| 
  mA0 rfl <| 
  mA1 rfl (⟨_, rfl, Nat.le_of_ble_eq_true rfl, gw_304, rfl⟩) <| 
  mA0 rfl <| 
  mA0 rfl <| 
  mA1 rfl (⟨Nat.le_of_ble_eq_true rfl, rfl, Nat.le_of_ble_eq_true rfl, Nat.le_of_ble_eq_true rfl, gw_697, gw_17, by decide +kernel, 159, 124, "no draft, or too many texts", List.mem_of_getElem? (i := 27) rfl, at_1, Or.inl ⟨by decide +kernel, by decide +kernel, by decide +kernel⟩⟩) <| 
  mA0 rfl <| 
  mA1 rfl (⟨_, rfl, Nat.le_of_ble_eq_true rfl, gw_300, rfl⟩) <| 
  mA0 rfl <| 
  mA1 rfl (⟨_, rfl, Nat.le_of_ble_eq_true rfl, gw_301, rfl⟩) <| 
  mA0 rfl <| 
  mA0 rfl <| 
  mA1 rfl (⟨_, rfl, Nat.le_of_ble_eq_true rfl, gw_304, rfl⟩) <| 
  mA1 rfl (⟨⟨Nat.le_of_ble_eq_true rfl, Nat.le_of_ble_eq_true rfl, Nat.le_of_ble_eq_true rfl, cal_169⟩, rfl, gw_475, gw_477, gs_169, _, rfl, rfl⟩) <| 
  mA1 rfl (⟨⟨Nat.le_of_ble_eq_true rfl, Nat.le_of_ble_eq_true rfl, Nat.le_of_ble_eq_true rfl, cal_20⟩, rfl, gw_865, gw_866, gw_867, _, rfl, rfl⟩) <| 
  mA0 rfl <| 
  mA1 rfl (⟨_, rfl, Nat.le_of_ble_eq_true rfl, gw_301, rfl⟩) <| 
  mA1 rfl (⟨⟨Nat.le_of_ble_eq_true rfl, Nat.le_of_ble_eq_true rfl, Nat.le_of_ble_eq_true rfl, cal_100⟩, rfl, gw_366, gw_87, gw_88, _, rfl, rfl⟩) <| 
  mA0 rfl <| 
  mA0 rfl <| 
  mA1 rfl (⟨_, rfl, Nat.le_of_ble_eq_true rfl, gw_304, rfl⟩) <| 
  mA0 rfl <| 
  mA0 rfl <| 
  mA1 rfl (⟨_, rfl, Nat.le_of_ble_eq_true rfl, gw_304, rfl, Or.inl rfl⟩) <| 
  mA0 rfl <| 
  mA1 rfl (⟨_, rfl, Nat.le_of_ble_eq_true rfl, gw_304, rfl⟩) <| 
  mA0 rfl <| 
  mA0 rfl <| 
  mA1 rfl (Or.inl ⟨rfl, rfl⟩) <| trivial

theorem mc_131 : mAllP 131 mt_131 :=
  mA0 rfl <| 
  mA1 rfl (⟨_, rfl, Nat.le_of_ble_eq_true rfl, gw_301, rfl⟩) <| 
  mA1 rfl (⟨⟨Nat.le_of_ble_eq_true rfl, Nat.le_of_ble_eq_true rfl, Nat.le_of_ble_eq_true rfl, cal_93⟩, rfl, gw_365, gw_91, gw_92, _, rfl, rfl⟩) <| 
  mA0 rfl <| 
  mA0 rfl <| 
  mA1 rfl (⟨_, rfl, Nat.le_of_ble_eq_true rfl, gw_301, rfl⟩) <| 
  mA1 rfl (⟨⟨Nat.le_of_ble_eq_true rfl, Nat.le_of_ble_eq_true rfl, Nat.le_of_ble_eq_true rfl, cal_100⟩, rfl, gw_366, gw_87, gw_88, _, rfl, rfl⟩) <| 
  mA0 rfl <| 
  mA1 rfl (Or.inl ⟨rfl, rfl⟩) <| trivial

theorem mc_132 : mAllP 132 mt_132 :=
  mA0 rfl <| 
  mA1 rfl (⟨_, rfl, Nat.le_of_ble_eq_true rfl, gw_301, rfl⟩) <| 
  mA1 rfl (⟨⟨Nat.le_of_ble_eq_true rfl, Nat.le_of_ble_eq_true rfl, Nat.le_of_ble_eq_true rfl, cal_94⟩, rfl, gw_779, gw_780, gw_781, _, rfl, rfl⟩) <| 
  mA0 rfl <| 
  mA1 rfl (⟨Nat.le_of_ble_eq_true rfl, rfl, Nat.le_of_ble_eq_true rfl, Nat.le_of_ble_eq_true rfl, gw_697, gw_17, by decide +kernel, 172, 124, "no draft", List.mem_of_getElem? (i := 12) rfl, at_1, Or.inl ⟨by decide +kernel, by decide +kernel, by decide +kernel⟩⟩) <| 
  mA0 rfl <| 
  mA1 rfl (⟨_, rfl, Nat.le_of_ble_eq_true rfl, gw_300, rfl⟩) <| 
  mA0 rfl <| 
  mA1 rfl (⟨_, rfl, Nat.le_of_ble_eq_true rfl, gw_301, rfl⟩) <| 
  mA0 rfl <| 
  mA1 rfl (⟨_, rfl, Nat.le_of_ble_eq_true rfl, gw_302, rfl⟩) <| 
  mA1 rfl (⟨⟨Nat.le_of_ble_eq_true rfl, Nat.le_of_ble_eq_true rfl, Nat.le_of_ble_eq_true rfl, cal_20⟩, rfl, gw_865, gw_866, gw_867, _, rfl, rfl⟩) <| 
  mA0 rfl <| 
  mA1 rfl (⟨_, rfl, Nat.le_of_ble_eq_true rfl, gw_301, rfl⟩) <| 
  mA1 rfl (⟨⟨Nat.le_of_ble_eq_true rfl, Nat.le_of_ble_eq_true rfl, Nat.le_of_ble_eq_true rfl, cal_100⟩, rfl, gw_366, gw_87, gw_88, _, rfl, rfl⟩) <| 
  mA0 rfl <| 
  mA1 rfl (⟨_, rfl, Nat.le_of_ble_eq_true rfl, gw_302, rfl⟩) <| 
  mA1 rfl (⟨⟨Nat.le_of_ble_eq_true rfl, Nat.le_of_ble_eq_true rfl, Nat.le_of_ble_eq_true rfl, cal_93⟩, rfl, gw_365, gw_91, gw_92, _, rfl, rfl⟩) <| 
  mA1 rfl (Or.inl ⟨rfl, rfl⟩) <| trivial

theorem mc_133 : mAllP 133 mt_133 :=
  mA0 rfl <| 
  mA1 rfl (⟨⟨Nat.le_of_ble_eq_true rfl, Nat.le_of_ble_eq_true rfl, Nat.le_of_ble_eq_true rfl, cal_174⟩, gw_372, Or.inl gw_371⟩) <| 
  mA0 rfl <| 
  mA1 rfl (⟨Nat.le_of_ble_eq_true rfl, rfl, Nat.le_of_ble_eq_true rfl, Nat.le_of_ble_eq_true rfl, gw_374, gw_16, by decide +kernel, 177, 113, "no such tailoring", List.mem_of_getElem? (i := 5) rfl, at_0, Or.inl ⟨by decide +kernel, by decide +kernel, by decide +kernel⟩⟩) <| 
  mA0 rfl <| 
  mA0 rfl <| 
  mA0 rfl <| 
  mA0 rfl <| 
  mA0 rfl <| 
  mA1 rfl (⟨Nat.le_of_ble_eq_true rfl, rfl, Nat.le_of_ble_eq_true rfl, Nat.le_of_ble_eq_true rfl, gw_725, gw_18, by decide +kernel, 181, 183, "no such rule", List.mem_of_getElem? (i := 13) rfl, at_2, Or.inl ⟨by decide +kernel, by decide +kernel, by decide +kernel⟩⟩) <| 
  mA0 rfl <| 
  mA1 rfl (⟨_, rfl, Nat.le_of_ble_eq_true rfl, gw_305, rfl⟩) <| 
  mA0 rfl <| 
  mA1 rfl (⟨Nat.le_of_ble_eq_true rfl, Nat.le_of_ble_eq_true rfl⟩) <| 
  mA0 rfl <| 
  mA0 rfl <| 
  mA1 rfl (⟨_, rfl, Nat.le_of_ble_eq_true rfl, gw_300, rfl⟩) <| 
  mA0 rfl <| 
  mA1 rfl (⟨_, rfl, Nat.le_of_ble_eq_true rfl, gw_301, rfl⟩) <| 
  mA0 rfl <| 
  mA1 rfl (⟨_, rfl, Nat.le_of_ble_eq_true rfl, gw_317, rfl⟩) <| 
  mA1 rfl (⟨⟨Nat.le_of_ble_eq_true rfl, Nat.le_of_ble_eq_true rfl, Nat.le_of_ble_eq_true rfl, cal_20⟩, rfl, gw_865, gw_866, gw_867, _, rfl, rfl⟩) <| 
  mA0 rfl <| 
  mA1 rfl (⟨_, rfl, Nat.le_of_ble_eq_true rfl, gw_302, rfl⟩) <| 
  mA0 rfl <| 
  mA0 rfl <| 
  mA1 rfl (⟨_, rfl, Nat.le_of_ble_eq_true rfl, gw_302, rfl⟩) <| 
  mA1 rfl (⟨⟨Nat.le_of_ble_eq_true rfl, Nat.le_of_ble_eq_true rfl, Nat.le_of_ble_eq_true rfl, cal_93⟩, rfl, gw_365, gw_91, gw_92, _, rfl, rfl⟩) <| 
  mA1 rfl (⟨⟨Nat.le_of_ble_eq_true rfl, Nat.le_of_ble_eq_true rfl, Nat.le_of_ble_eq_true rfl, cal_184⟩, gw_567, Or.inl gw_893⟩) <| 
  mA0 rfl <| 
  mA0 rfl <| 
  mA1 rfl (⟨_, rfl, Nat.le_of_ble_eq_true rfl, gw_317, rfl⟩) <| 
  mA0 rfl <| 
  mA0 rfl <| 
  mA1 rfl (⟨_, rfl, Nat.le_of_ble_eq_true rfl, gw_317, rfl⟩) <| 
  mA1 rfl (⟨⟨Nat.le_of_ble_eq_true rfl, Nat.le_of_ble_eq_true rfl, Nat.le_of_ble_eq_true rfl, cal_93⟩, rfl, gw_365, gw_91, gw_92, _, rfl, rfl⟩) <| 
  mA1 rfl (⟨⟨Nat.le_of_ble_eq_true rfl, Nat.le_of_ble_eq_true rfl, Nat.le_of_ble_eq_true rfl, cal_184⟩, gw_567, Or.inl gw_893⟩) <| 
  mA0 rfl <| 
  mA0 rfl <| 
  mA0 rfl <| 
  mA0 rfl <| 
  mA0 rfl <| 
  mA1 rfl (⟨⟨Nat.le_of_ble_eq_true rfl, Nat.le_of_ble_eq_true rfl, Nat.le_of_ble_eq_true rfl, cal_116⟩, rfl, gw_894, gw_895, gw_896, _, rfl, rfl⟩) <| 
  mA0 rfl <| 
  mA1 rfl (⟨Nat.le_of_ble_eq_true rfl, rfl, Nat.le_of_ble_eq_true rfl, Nat.le_of_ble_eq_true rfl, gw_697, gw_17, by decide +kernel, 192, 124, "the rule is not possible", List.mem_of_getElem? (i := 14) rfl, at_1, Or.inl ⟨by decide +kernel, by decide +kernel, by decide +kernel⟩⟩) <| 
  mA0 rfl <| 
  mA1 rfl (⟨_, rfl, Nat.le_of_ble_eq_true rfl, gw_310, rfl⟩) <| 
  mA0 rfl <| 
  mA1 rfl (⟨Nat.le_of_ble_eq_true rfl, Nat.le_of_ble_eq_true rfl⟩) <| 
  mA0 rfl <| 
  mA0 rfl <| 
  mA1 rfl (⟨⟨Nat.le_of_ble_eq_true rfl, Nat.le_of_ble_eq_true rfl, Nat.le_of_ble_eq_true rfl, cal_188⟩, rfl, gw_442, gw_444, gs_188, _, rfl, rfl⟩) <| 
  mA1 rfl (⟨⟨Nat.le_of_ble_eq_true rfl, Nat.le_of_ble_eq_true rfl, Nat.le_of_ble_eq_true rfl, cal_85⟩, rfl, gw_663, gw_664, gw_665, _, rfl, rfl⟩) <| 
  mA0 rfl <| 
  mA0 rfl <| 
  mA0 rfl <| 
  mA0 rfl <| 
  mA1 rfl (⟨⟨Nat.le_of_ble_eq_true rfl, Nat.le_of_ble_eq_true rfl, Nat.le_of_ble_eq_true rfl, cal_120⟩, rfl, gw_917, gw_918, gw_919, _, rfl, rfl⟩) <| 
  mA0 rfl <| 
  mA1 rfl (⟨_, rfl, Nat.le_of_ble_eq_true rfl, gw_302, rfl⟩) <| 
  mA1 rfl (⟨⟨Nat.le_of_ble_eq_true rfl, Nat.le_of_ble_eq_true rfl, Nat.le_of_ble_eq_true rfl, cal_100⟩, rfl, gw_366, gw_87, gw_88, _, rfl, rfl⟩) <| 
  mA0 rfl <| 
  mA1 rfl (⟨_, rfl, Nat.le_of_ble_eq_true rfl, gw_301, rfl⟩) <| 
  mA1 rfl (⟨⟨Nat.le_of_ble_eq_true rfl, Nat.le_of_ble_eq_true rfl, Nat.le_of_ble_eq_true rfl, cal_100⟩, rfl, gw_366, gw_87, gw_88, _, rfl, rfl⟩) <| 
  mA0 rfl <| 
  mA1 rfl (⟨⟨Nat.le_of_ble_eq_true rfl, Nat.le_of_ble_eq_true rfl, Nat.le_of_ble_eq_true rfl, cal_111⟩, rfl, gw_750, gw_751, gw_752, _, rfl, rfl⟩) <| 
  mA1 rfl (Or.inl ⟨rfl, rfl⟩) <| trivial

theorem mc_134 : mAllP 134 mt_134 :=
  trivial

theorem mc_135 : mAllP 135 mt_135 :=
  mA0 rfl <| 
  mA1 rfl (⟨⟨Nat.le_of_ble_eq_true rfl, Nat.le_of_ble_eq_true rfl, Nat.le_of_ble_eq_true rfl, cal_174⟩, gw_372, Or.inl gw_371⟩) <| 
  mA0 rfl <| 
  mA0 rfl <| 
  mA0 rfl <| 
  mA0 rfl <| 
  mA0 rfl <| 
  mA0 rfl <| 
  mA1 rfl (⟨Nat.le_of_ble_eq_true rfl, rfl, Nat.le_of_ble_eq_true rfl, Nat.le_of_ble_eq_true rfl, gw_374, gw_16, by decide +kernel, 217, 113, "no such tailoring or option", List.mem_of_getElem? (i := 0) rfl, at_0, Or.inl ⟨by decide +kernel, by decide +kernel, by decide +kernel⟩⟩) <| 
  mA0 rfl <| 
  mA1 rfl (⟨_, rfl, Nat.le_of_ble_eq_true rfl, gw_310, rfl⟩) <| 
  mA0 rfl <| 
  mA1 rfl (⟨Nat.le_of_ble_eq_true rfl, Nat.le_of_ble_eq_true rfl⟩) <| 
  mA0 rfl <| 
  mA0 rfl <| 
  mA1 rfl (⟨⟨Nat.le_of_ble_eq_true rfl, Nat.le_of_ble_eq_true rfl, Nat.le_of_ble_eq_true rfl, cal_188⟩, rfl, gw_442, gw_444, gs_188, _, rfl, rfl⟩) <| 
  mA1 rfl (⟨⟨Nat.le_of_ble_eq_true rfl, Nat.le_of_ble_eq_true rfl, Nat.le_of_ble_eq_true rfl, cal_85⟩, rfl, gw_663, gw_664, gw_665, _, rfl, rfl⟩) <| 
  mA0 rfl <| 
  mA1 rfl (⟨_, rfl, Nat.le_of_ble_eq_true rfl, gw_305, rfl⟩) <| 
  mA0 rfl <| 
  mA1 rfl (⟨Nat.le_of_ble_eq_true rfl, Nat.le_of_ble_eq_true rfl⟩) <| 
  mA0 rfl <| 
  mA1 rfl (⟨⟨Nat.le_of_ble_eq_true rfl, Nat.le_of_ble_eq_true rfl, Nat.le_of_ble_eq_true rfl, cal_108⟩, rfl, gw_673, gw_542, gw_543, _, rfl, rfl⟩) <| 
  mA0 rfl <| 
  mA0 rfl <| 
  mA1 rfl (⟨_, rfl, Nat.le_of_ble_eq_true rfl, gw_305, rfl⟩) <| 
  mA0 rfl <| 
  mA1 rfl (⟨Nat.le_of_ble_eq_true rfl, Nat.le_of_ble_eq_true rfl⟩) <| 
  mA0 rfl <| 
  mA0 rfl <| 
  mA1 rfl (⟨⟨Nat.le_of_ble_eq_true rfl, Nat.le_of_ble_eq_true rfl, Nat.le_of_ble_eq_true rfl, cal_109⟩, rfl, gw_674, gw_675, gw_676, _, rfl, rfl⟩) <| 
  mA0 rfl <| 
  mA1 rfl (Or.inr ⟨by decide, rfl⟩) <| trivial

theorem mc_136 : mAllP 136 mt_136 :=
  mA0 rfl <| 
  mA0 rfl <| 
  mA0 rfl <| 
  mA0 rfl <| 
  mA0 rfl <| 
  mA1 rfl (⟨Nat.le_of_ble_eq_true rfl, rfl, Nat.le_of_ble_eq_true rfl, Nat.le_of_ble_eq_true rfl, gw_374, gw_16, by decide +kernel, 226, 113, "no such letter", List.mem_of_getElem? (i := 1) rfl, at_0, Or.inl ⟨by decide +kernel, by decide +kernel, by decide +kernel⟩⟩) <| 
  mA0 rfl <| 
  mA1 rfl (⟨_, rfl, Nat.le_of_ble_eq_true rfl, gw_307, rfl⟩) <| 
  mA0 rfl <| 
  mA0 rfl <| 
  mA0 rfl <| 
  mA0 rfl <| 
  mA0 rfl <| 
  mA0 rfl <| 
  mA0 rfl <| 
  mA0 rfl <| 
  mA0 rfl <| 
  mA0 rfl <| 
  mA0 rfl <| 
  mA0 rfl <| 
  mA1 rfl (⟨_, rfl, Nat.le_of_ble_eq_true rfl, gw_307, rfl⟩) <| 
  mA0 rfl <| 
  mA0 rfl <| 
  mA0 rfl <| 
  mA0 rfl <| 
  mA0 rfl <| 
  mA0 rfl <| 
  mA0 rfl <| 
  mA0 rfl <| 
  mA0 rfl <| 
  mA0 rfl <| 
  mA0 rfl <| 
  mA1 rfl (Or.inl ⟨rfl, rfl⟩) <| trivial

theorem mc_137 : mAllP 137 mt_137 :=
  mA0 rfl <| 
  mA0 rfl <| 
  mA0 rfl <| 
  mA0 rfl <| 
  mA0 rfl <| 
  mA1 rfl (⟨⟨Nat.le_of_ble_eq_true rfl, Nat.le_of_ble_eq_true rfl, Nat.le_of_ble_eq_true rfl, cal_167⟩, rfl, gw_762, gw_764, gs_167, _, rfl, rfl⟩) <| 
  mA0 rfl <| 
  mA0 rfl <| 
  mA0 rfl <| 
  mA1 rfl (⟨⟨Nat.le_of_ble_eq_true rfl, Nat.le_of_ble_eq_true rfl, Nat.le_of_ble_eq_true rfl, cal_166⟩, rfl, gw_687, gw_689, gs_166, _, rfl, rfl⟩) <| 
  mA0 rfl <| 
  mA1 rfl (⟨Nat.le_of_ble_eq_true rfl, rfl, Nat.le_of_ble_eq_true rfl, Nat.le_of_ble_eq_true rfl, gw_374, gw_16, by decide +kernel, 234, 113, "no such entry or text", List.mem_of_getElem? (i := 15) rfl, at_0, Or.inl ⟨by decide +kernel, by decide +kernel, by decide +kernel⟩⟩) <| 
  mA0 rfl <| 
  mA0 rfl <| 
  mA0 rfl <| 
  mA0 rfl <| 
  mA0 rfl <| 
  mA0 rfl <| 
  mA1 rfl (⟨Nat.le_of_ble_eq_true rfl, rfl, Nat.le_of_ble_eq_true rfl, Nat.le_of_ble_eq_true rfl, gw_725, gw_18, by decide +kernel, 236, 183, "no such indexes", List.mem_of_getElem? (i := 16) rfl, at_2, Or.inl ⟨by decide +kernel, by decide +kernel, by decide +kernel⟩⟩) <| 
  mA0 rfl <| 
  mA0 rfl <| 
  mA0 rfl <| 
  mA0 rfl <| 
  mA0 rfl <| 
  mA1 rfl (⟨⟨Nat.le_of_ble_eq_true rfl, Nat.le_of_ble_eq_true rfl, Nat.le_of_ble_eq_true rfl, cal_171⟩, rfl, gw_463, gw_465, gs_171, _, rfl, rfl⟩) <| 
  mA1 rfl (⟨⟨Nat.le_of_ble_eq_true rfl, Nat.le_of_ble_eq_true rfl, Nat.le_of_ble_eq_true rfl, cal_52⟩, rfl, gw_634, gw_635, gw_636, _, rfl, rfl⟩) <| 
  mA0 rfl <| 
  mA0 rfl <| 
  mA1 rfl (⟨_, rfl, Nat.le_of_ble_eq_true rfl, gw_309, rfl⟩) <| 
  mA0 rfl <| 
  mA0 rfl <| 
  mA1 rfl (⟨Nat.le_of_ble_eq_true rfl, rfl, Nat.le_of_ble_eq_true rfl, Nat.le_of_ble_eq_true rfl, gw_697, gw_17, by decide +kernel, 248, 124, "the parent has one, or too many entries", List.mem_of_getElem? (i := 17) rfl, at_1, Or.inl ⟨by decide +kernel, by decide +kernel, by decide +kernel⟩⟩) <| 
  mA0 rfl <| 
  mA0 rfl <| 
  mA0 rfl <| 
  mA0 rfl <| 
  mA0 rfl <| 
  mA0 rfl <| 
  mA0 rfl <| 
  mA1 rfl (⟨⟨Nat.le_of_ble_eq_true rfl, Nat.le_of_ble_eq_true rfl, Nat.le_of_ble_eq_true rfl, cal_171⟩, rfl, gw_463, gw_465, gs_171, _, rfl, rfl⟩) <| 
  mA1 rfl (⟨⟨Nat.le_of_ble_eq_true rfl, Nat.le_of_ble_eq_true rfl, Nat.le_of_ble_eq_true rfl, cal_53⟩, rfl, gw_951, gw_952, gw_953, _, rfl, rfl⟩) <| 
  mA0 rfl <| 
  mA0 rfl <| 
  mA0 rfl <| 
  mA1 rfl (⟨_, rfl, Nat.le_of_ble_eq_true rfl, gw_309, rfl⟩) <| 
  mA1 rfl (⟨⟨Nat.le_of_ble_eq_true rfl, Nat.le_of_ble_eq_true rfl, Nat.le_of_ble_eq_true rfl, cal_171⟩, rfl, gw_463, gw_465, gs_171, _, rfl, rfl⟩) <| 
  mA0 rfl <| 
  mA0 rfl <| 
  mA0 rfl <| 
  mA1 rfl (⟨⟨Nat.le_of_ble_eq_true rfl, Nat.le_of_ble_eq_true rfl, Nat.le_of_ble_eq_true rfl, cal_49⟩, rfl, gw_955, gw_956, gw_957, _, rfl, rfl⟩) <| 
  mA0 rfl <| 
  mA0 rfl <| 
  mA1 rfl (⟨_, rfl, Nat.le_of_ble_eq_true rfl, gw_309, rfl⟩) <| 
  mA0 rfl <| 
  mA0 rfl <| 
  mA1 rfl (⟨_, rfl, Nat.le_of_ble_eq_true rfl, gw_309, rfl, Or.inl rfl⟩) <| 
  mA0 rfl <| 
  mA1 rfl (⟨⟨Nat.le_of_ble_eq_true rfl, Nat.le_of_ble_eq_true rfl, Nat.le_of_ble_eq_true rfl, cal_189⟩, rfl, gw_959, gw_961, gs_189, _, rfl, rfl⟩) <| 
  mA0 rfl <| 
  mA1 rfl (⟨_, rfl, Nat.le_of_ble_eq_true rfl, gw_309, rfl⟩) <| 
  mA0 rfl <| 
  mA0 rfl <| 
  mA1 rfl (Or.inl ⟨rfl, rfl⟩) <| trivial

theorem mc_138 : mAllP 138 mt_138 :=
  mA0 rfl <| 
  mA0 rfl <| 
  mA1 rfl (⟨⟨Nat.le_of_ble_eq_true rfl, Nat.le_of_ble_eq_true rfl, Nat.le_of_ble_eq_true rfl, cal_167⟩, rfl, gw_762, gw_764, gs_167, _, rfl, rfl⟩) <| 
  mA0 rfl <| 
  mA1 rfl (⟨Nat.le_of_ble_eq_true rfl, rfl, Nat.le_of_ble_eq_true rfl, Nat.le_of_ble_eq_true rfl, gw_374, gw_16, by decide +kernel, 259, 113, "no such entry", List.mem_of_getElem? (i := 6) rfl, at_0, Or.inr ⟨by decide +kernel, by decide +kernel, by decide +kernel⟩⟩) <| 
  mA0 rfl <| 
  mA0 rfl <| 
  mA1 rfl (⟨⟨Nat.le_of_ble_eq_true rfl, Nat.le_of_ble_eq_true rfl, Nat.le_of_ble_eq_true rfl, cal_171⟩, rfl, gw_463, gw_465, gs_171, _, rfl, rfl⟩) <| 
  mA0 rfl <| 
  mA0 rfl <| 
  mA0 rfl <| 
  mA0 rfl <| 
  mA0 rfl <| 
  mA0 rfl <| 
  mA0 rfl <| 
  mA0 rfl <| 
  mA0 rfl <| 
  mA0 rfl <| 
  mA0 rfl <| 
  mA0 rfl <| 
  mA0 rfl <| 
  mA1 rfl (⟨⟨Nat.le_of_ble_eq_true rfl, Nat.le_of_ble_eq_true rfl, Nat.le_of_ble_eq_true rfl, cal_50⟩, rfl, gw_471, gw_472, gw_473, _, rfl, rfl⟩) <| 
  mA1 rfl (⟨⟨Nat.le_of_ble_eq_true rfl, Nat.le_of_ble_eq_true rfl, Nat.le_of_ble_eq_true rfl, cal_169⟩, rfl, gw_475, gw_477, gs_169, _, rfl, rfl⟩) <| 
  mA1 rfl (⟨⟨Nat.le_of_ble_eq_true rfl, Nat.le_of_ble_eq_true rfl, Nat.le_of_ble_eq_true rfl, cal_93⟩, rfl, gw_365, gw_91, gw_92, _, rfl, rfl⟩) <| 
  mA0 rfl <| 
  mA0 rfl <| 
  mA0 rfl <| 
  mA0 rfl <| 
  mA0 rfl <| 
  mA0 rfl <| 
  mA0 rfl <| 
  mA0 rfl <| 
  mA0 rfl <| 
  mA0 rfl <| 
  mA0 rfl <| 
  mA0 rfl <| 
  mA0 rfl <| 
  mA0 rfl <| 
  mA0 rfl <| 
  mA1 rfl (⟨Nat.le_of_ble_eq_true rfl, rfl, Nat.le_of_ble_eq_true rfl, Nat.le_of_ble_eq_true rfl, gw_725, gw_18, by decide +kernel, 264, 183, "no such form", List.mem_of_getElem? (i := 18) rfl, at_2, Or.inr ⟨by decide +kernel, by decide +kernel, by decide +kernel⟩⟩) <| 
  mA0 rfl <| 
  mA1 rfl (⟨⟨Nat.le_of_ble_eq_true rfl, Nat.le_of_ble_eq_true rfl, Nat.le_of_ble_eq_true rfl, cal_55⟩, rfl, gw_972, gw_973, gw_974, _, rfl, rfl⟩) <| 
  mA0 rfl <| 
  mA0 rfl <| 
  mA0 rfl <| 
  mA0 rfl <| 
  mA1 rfl (⟨⟨Nat.le_of_ble_eq_true rfl, Nat.le_of_ble_eq_true rfl, Nat.le_of_ble_eq_true rfl, cal_58⟩, rfl, gw_976, gw_977, gw_978, _, rfl, rfl⟩) <| 
  mA0 rfl <| 
  mA1 rfl (⟨⟨Nat.le_of_ble_eq_true rfl, Nat.le_of_ble_eq_true rfl, Nat.le_of_ble_eq_true rfl, cal_189⟩, rfl, gw_959, gw_961, gs_189, _, rfl, rfl⟩) <| 
  mA0 rfl <| 
  mA1 rfl (Or.inl ⟨rfl, rfl⟩) <| trivial

theorem mc_139 : mAllP 139 mt_139 :=
  mA0 rfl <| 
  mA0 rfl <| 
  mA1 rfl (⟨⟨Nat.le_of_ble_eq_true rfl, Nat.le_of_ble_eq_true rfl, Nat.le_of_ble_eq_true rfl, cal_167⟩, rfl, gw_762, gw_764, gs_167, _, rfl, rfl⟩) <| 
  mA0 rfl <| 
  mA1 rfl (⟨Nat.le_of_ble_eq_true rfl, rfl, Nat.le_of_ble_eq_true rfl, Nat.le_of_ble_eq_true rfl, gw_374, gw_16, by decide +kernel, 259, 113, "no such entry", List.mem_of_getElem? (i := 6) rfl, at_0, Or.inr ⟨by decide +kernel, by decide +kernel, by decide +kernel⟩⟩) <| 
  mA0 rfl <| 
  mA1 rfl (⟨⟨Nat.le_of_ble_eq_true rfl, Nat.le_of_ble_eq_true rfl, Nat.le_of_ble_eq_true rfl, cal_176⟩, gw_985, Or.inl gw_984⟩) <| 
  mA0 rfl <| 
  mA0 rfl <| 
  mA0 rfl <| 
  mA0 rfl <| 
  mA0 rfl <| 
  mA0 rfl <| 
  mA1 rfl (⟨Nat.le_of_ble_eq_true rfl, rfl, Nat.le_of_ble_eq_true rfl, Nat.le_of_ble_eq_true rfl, gw_725, gw_18, by decide +kernel, 276, 183, "no such page or sort", List.mem_of_getElem? (i := 19) rfl, at_2, Or.inr ⟨by decide +kernel, by decide +kernel, by decide +kernel⟩⟩) <| 
  mA0 rfl <| 
  mA0 rfl <| 
  mA1 rfl (⟨⟨Nat.le_of_ble_eq_true rfl, Nat.le_of_ble_eq_true rfl, Nat.le_of_ble_eq_true rfl, cal_171⟩, rfl, gw_463, gw_465, gs_171, _, rfl, rfl⟩) <| 
  mA0 rfl <| 
  mA0 rfl <| 
  mA0 rfl <| 
  mA0 rfl <| 
  mA1 rfl (⟨⟨Nat.le_of_ble_eq_true rfl, Nat.le_of_ble_eq_true rfl, Nat.le_of_ble_eq_true rfl, cal_64⟩, rfl, gw_988, gw_989, gw_990, _, rfl, rfl⟩) <| 
  mA0 rfl <| 
  mA0 rfl <| 
  mA1 rfl (Or.inr ⟨by decide, rfl⟩) <| 
  mA0 rfl <| 
  mA1 rfl (⟨⟨Nat.le_of_ble_eq_true rfl, Nat.le_of_ble_eq_true rfl, Nat.le_of_ble_eq_true rfl, cal_59⟩, rfl, gw_775, gw_776, gw_777, _, rfl, rfl⟩) <| 
  mA1 rfl (⟨⟨Nat.le_of_ble_eq_true rfl, Nat.le_of_ble_eq_true rfl, Nat.le_of_ble_eq_true rfl, cal_93⟩, rfl, gw_365, gw_91, gw_92, _, rfl, rfl⟩) <| 
  mA0 rfl <| 
  mA0 rfl <| 
  mA1 rfl (⟨Nat.le_of_ble_eq_true rfl, rfl, Nat.le_of_ble_eq_true rfl, Nat.le_of_ble_eq_true rfl, gw_697, gw_17, by decide +kernel, 286, 124, "too many locators", List.mem_of_getElem? (i := 20) rfl, at_1, Or.inr ⟨by decide +kernel, by decide +kernel, by decide +kernel⟩⟩) <| 
  mA0 rfl <| 
  mA0 rfl <| 
  mA0 rfl <| 
  mA1 rfl (⟨⟨Nat.le_of_ble_eq_true rfl, Nat.le_of_ble_eq_true rfl, Nat.le_of_ble_eq_true rfl, cal_65⟩, rfl, gw_1000, gw_1001, gw_1002, _, rfl, rfl⟩) <| 
  mA0 rfl <| 
  mA1 rfl (Or.inr ⟨by decide, rfl⟩) <| trivial

theorem mc_140 : mAllP 140 mt_140 :=
  mA0 rfl <| 
  mA0 rfl <| 
  mA1 rfl (⟨⟨Nat.le_of_ble_eq_true rfl, Nat.le_of_ble_eq_true rfl, Nat.le_of_ble_eq_true rfl, cal_167⟩, rfl, gw_762, gw_764, gs_167, _, rfl, rfl⟩) <| 
  mA0 rfl <| 
  mA0 rfl <| 
  mA0 rfl <| 
  mA1 rfl (⟨⟨Nat.le_of_ble_eq_true rfl, Nat.le_of_ble_eq_true rfl, Nat.le_of_ble_eq_true rfl, cal_167⟩, rfl, gw_762, gw_764, gs_167, _, rfl, rfl⟩) <| 
  mA0 rfl <| 
  mA1 rfl (⟨Nat.le_of_ble_eq_true rfl, rfl, Nat.le_of_ble_eq_true rfl, Nat.le_of_ble_eq_true rfl, gw_374, gw_16, by decide +kernel, 259, 113, "no such entry", List.mem_of_getElem? (i := 6) rfl, at_0, Or.inr ⟨by decide +kernel, by decide +kernel, by decide +kernel⟩⟩) <| 
  mA0 rfl <| 
  mA0 rfl <| 
  mA0 rfl <| 
  mA1 rfl (⟨Nat.le_of_ble_eq_true rfl, rfl, Nat.le_of_ble_eq_true rfl, Nat.le_of_ble_eq_true rfl, gw_725, gw_18, by decide +kernel, 205, 183, "both are the same", List.mem_of_getElem? (i := 21) rfl, at_2, Or.inl ⟨by decide +kernel, by decide +kernel, by decide +kernel⟩⟩) <| 
  mA0 rfl <| 
  mA0 rfl <| 
  mA1 rfl (⟨⟨Nat.le_of_ble_eq_true rfl, Nat.le_of_ble_eq_true rfl, Nat.le_of_ble_eq_true rfl, cal_171⟩, rfl, gw_463, gw_465, gs_171, _, rfl, rfl⟩) <| 
  mA0 rfl <| 
  mA0 rfl <| 
  mA0 rfl <| 
  mA0 rfl <| 
  mA1 rfl (⟨⟨Nat.le_of_ble_eq_true rfl, Nat.le_of_ble_eq_true rfl, Nat.le_of_ble_eq_true rfl, cal_67⟩, rfl, gw_783, gw_784, gw_785, _, rfl, rfl⟩) <| 
  mA0 rfl <| 
  mA0 rfl <| 
  mA0 rfl <| 
  mA1 rfl (⟨⟨Nat.le_of_ble_eq_true rfl, Nat.le_of_ble_eq_true rfl, Nat.le_of_ble_eq_true rfl, cal_67⟩, rfl, gw_783, gw_784, gw_785, _, rfl, rfl⟩) <| 
  mA0 rfl <| 
  mA0 rfl <| 
  mA1 rfl (⟨Nat.le_of_ble_eq_true rfl, rfl, Nat.le_of_ble_eq_true rfl, Nat.le_of_ble_eq_true rfl, gw_697, gw_17, by decide +kernel, 294, 124, "it sees a third one", List.mem_of_getElem? (i := 22) rfl, at_1, Or.inr ⟨by decide +kernel, by decide +kernel, by decide +kernel⟩⟩) <| 
  mA0 rfl <| 
  mA0 rfl <| 
  mA0 rfl <| 
  mA0 rfl <| 
  mA1 rfl (⟨⟨Nat.le_of_ble_eq_true rfl, Nat.le_of_ble_eq_true rfl, Nat.le_of_ble_eq_true rfl, cal_68⟩, rfl, gw_795, gw_796, gw_797, _, rfl, rfl⟩) <| 
  mA0 rfl <| 
  mA0 rfl <| 
  mA0 rfl <| 
  mA0 rfl <| 
  mA0 rfl <| 
  mA0 rfl <| 
  mA1 rfl (⟨⟨Nat.le_of_ble_eq_true rfl, Nat.le_of_ble_eq_true rfl, Nat.le_of_ble_eq_true rfl, cal_67⟩, rfl, gw_783, gw_784, gw_785, _, rfl, rfl⟩) <| 
  mA0 rfl <| 
  mA0 rfl <| 
  mA0 rfl <| 
  mA0 rfl <| 
  mA0 rfl <| 
  mA0 rfl <| 
  mA0 rfl <| 
  mA0 rfl <| 
  mA0 rfl <| 
  mA1 rfl (⟨⟨Nat.le_of_ble_eq_true rfl, Nat.le_of_ble_eq_true rfl, Nat.le_of_ble_eq_true rfl, cal_70⟩, rfl, gw_1013, gw_1014, gw_1015, _, rfl, rfl⟩) <| 
  mA0 rfl <| 
  mA1 rfl (Or.inr ⟨by decide, rfl⟩) <| trivial

theorem mc_141 : mAllP 141 mt_141 :=
  mA0 rfl <| 
  mA0 rfl <| 
  mA1 rfl (⟨⟨Nat.le_of_ble_eq_true rfl, Nat.le_of_ble_eq_true rfl, Nat.le_of_ble_eq_true rfl, cal_166⟩, rfl, gw_687, gw_689, gs_166, _, rfl, rfl⟩) <| 
  mA0 rfl <| 
  mA1 rfl (⟨Nat.le_of_ble_eq_true rfl, rfl, Nat.le_of_ble_eq_true rfl, Nat.le_of_ble_eq_true rfl, gw_374, gw_16, by decide +kernel, 302, 113, "no such text", List.mem_of_getElem? (i := 2) rfl, at_0, Or.inr ⟨by decide +kernel, by decide +kernel, by decide +kernel⟩⟩) <| 
  mA0 rfl <| 
  mA1 rfl (⟨_, rfl, Nat.le_of_ble_eq_true rfl, gw_311, rfl⟩) <| 
  mA1 rfl (⟨⟨Nat.le_of_ble_eq_true rfl, Nat.le_of_ble_eq_true rfl, Nat.le_of_ble_eq_true rfl, cal_25⟩, rfl, gw_692, gw_693, gw_694, _, rfl, rfl⟩) <| 
  mA0 rfl <| 
  mA0 rfl <| 
  mA1 rfl (⟨Nat.le_of_ble_eq_true rfl, rfl, Nat.le_of_ble_eq_true rfl, Nat.le_of_ble_eq_true rfl, gw_697, gw_17, by decide +kernel, 307, 124, "too many words", List.mem_of_getElem? (i := 3) rfl, at_1, Or.inr ⟨by decide +kernel, by decide +kernel, by decide +kernel⟩⟩) <| 
  mA0 rfl <| 
  mA1 rfl (⟨_, rfl, Nat.le_of_ble_eq_true rfl, gw_311, rfl⟩) <| 
  mA0 rfl <| 
  mA1 rfl (⟨⟨Nat.le_of_ble_eq_true rfl, Nat.le_of_ble_eq_true rfl, Nat.le_of_ble_eq_true rfl, cal_27⟩, rfl, gw_713, gw_714, gw_715, _, rfl, rfl⟩) <| 
  mA0 rfl <| 
  mA1 rfl (⟨_, rfl, Nat.le_of_ble_eq_true rfl, gw_311, rfl⟩) <| 
  mA1 rfl (⟨⟨Nat.le_of_ble_eq_true rfl, Nat.le_of_ble_eq_true rfl, Nat.le_of_ble_eq_true rfl, cal_25⟩, rfl, gw_692, gw_693, gw_694, _, rfl, rfl⟩) <| 
  mA0 rfl <| 
  mA0 rfl <| 
  mA1 rfl (Or.inl ⟨rfl, rfl⟩) <| trivial

theorem mc_142 : mAllP 142 mt_142 :=
  trivial

theorem mc_143 : mAllP 143 mt_143 :=
  trivial

theorem mc_144 : mAllP 144 mt_144 :=
  trivial

theorem mc_145 : mAllP 145 mt_145 :=
  trivial

theorem mc_146 : mAllP 146 mt_146 :=
  mA0 rfl <| 
  mA1 rfl (⟨⟨Nat.le_of_ble_eq_true rfl, Nat.le_of_ble_eq_true rfl, Nat.le_of_ble_eq_true rfl, cal_177⟩, gw_723, Or.inl gw_722⟩) <| 
  mA0 rfl <| 
  mA0 rfl <| 
  mA1 rfl (⟨⟨Nat.le_of_ble_eq_true rfl, Nat.le_of_ble_eq_true rfl, Nat.le_of_ble_eq_true rfl, cal_177⟩, gw_723, Or.inl gw_722⟩) <| 
  mA0 rfl <| 
  mA1 rfl (⟨Nat.le_of_ble_eq_true rfl, rfl, Nat.le_of_ble_eq_true rfl, Nat.le_of_ble_eq_true rfl, gw_725, gw_18, by decide +kernel, 356, 183, "no such width or height", List.mem_of_getElem? (i := 4) rfl, at_2, Or.inr ⟨by decide +kernel, by decide +kernel, by decide +kernel⟩⟩) <| 
  mA0 rfl <| 
  mA1 rfl (⟨_, rfl, Nat.le_of_ble_eq_true rfl, gw_313, rfl⟩) <| 
  mA0 rfl <| 
  mA0 rfl <| 
  mA0 rfl <| 
  mA1 rfl (⟨_, rfl, Nat.le_of_ble_eq_true rfl, gw_313, rfl, Or.inl rfl⟩) <| 
  mA0 rfl <| 
  mA0 rfl <| 
  mA1 rfl (⟨_, rfl, Nat.le_of_ble_eq_true rfl, gw_314, rfl, Or.inl rfl⟩) <| 
  mA0 rfl <| 
  mA1 rfl (Or.inl ⟨rfl, rfl⟩) <| trivial

theorem mc_147 : mAllP 147 mt_147 :=
  mA0 rfl <| 
  mA1 rfl (⟨_, rfl, Nat.le_of_ble_eq_true rfl, gw_304, rfl⟩) <| 
  mA1 rfl (Or.inl ⟨rfl, rfl⟩) <| trivial

theorem mc_148 : mAllP 148 mt_148 :=
  mA0 rfl <| 
  mA0 rfl <| 
  mA1 rfl (⟨⟨Nat.le_of_ble_eq_true rfl, Nat.le_of_ble_eq_true rfl, Nat.le_of_ble_eq_true rfl, cal_166⟩, rfl, gw_687, gw_689, gs_166, _, rfl, rfl⟩) <| 
  mA0 rfl <| 
  mA0 rfl <| 
  mA0 rfl <| 
  mA1 rfl (⟨Nat.le_of_ble_eq_true rfl, rfl, Nat.le_of_ble_eq_true rfl, Nat.le_of_ble_eq_true rfl, gw_374, gw_16, by decide +kernel, 358, 113, "no such text or index", List.mem_of_getElem? (i := 28) rfl, at_0, Or.inr ⟨by decide +kernel, by decide +kernel, by decide +kernel⟩⟩) <| 
  mA0 rfl <| 
  mA0 rfl <| 
  mA0 rfl <| 
  mA0 rfl <| 
  mA1 rfl (⟨⟨Nat.le_of_ble_eq_true rfl, Nat.le_of_ble_eq_true rfl, Nat.le_of_ble_eq_true rfl, cal_169⟩, rfl, gw_475, gw_477, gs_169, _, rfl, rfl⟩) <| 
  mA0 rfl <| 
  mA1 rfl (⟨⟨Nat.le_of_ble_eq_true rfl, Nat.le_of_ble_eq_true rfl, Nat.le_of_ble_eq_true rfl, cal_95⟩, rfl, gw_569, gw_95, gw_96, _, rfl, rfl⟩) <| 
  mA1 rfl (Or.inl ⟨rfl, rfl⟩) <| 
  mA0 rfl <| 
  mA1 rfl (⟨_, rfl, Nat.le_of_ble_eq_true rfl, gw_300, rfl⟩) <| 
  mA0 rfl <| 
  mA0 rfl <| 
  mA1 rfl (⟨⟨Nat.le_of_ble_eq_true rfl, Nat.le_of_ble_eq_true rfl, Nat.le_of_ble_eq_true rfl, cal_169⟩, rfl, gw_475, gw_477, gs_169, _, rfl, rfl⟩) <| 
  mA0 rfl <| 
  mA1 rfl (⟨_, rfl, Nat.le_of_ble_eq_true rfl, gw_317, rfl⟩) <| 
  mA1 rfl (⟨⟨Nat.le_of_ble_eq_true rfl, Nat.le_of_ble_eq_true rfl, Nat.le_of_ble_eq_true rfl, cal_23⟩, rfl, gw_1125, gw_1126, gw_1127, _, rfl, rfl⟩) <| 
  mA0 rfl <| 
  mA1 rfl (⟨_, rfl, Nat.le_of_ble_eq_true rfl, gw_317, rfl⟩) <| 
  mA0 rfl <| 
  mA1 rfl (⟨⟨Nat.le_of_ble_eq_true rfl, Nat.le_of_ble_eq_true rfl, Nat.le_of_ble_eq_true rfl, cal_95⟩, rfl, gw_569, gw_95, gw_96, _, rfl, rfl⟩) <| 
  mA1 rfl (Or.inl ⟨rfl, rfl⟩) <| trivial

theorem mc_149 : mAllP 149 mt_149 :=
  mA0 rfl <| 
  mA1 rfl (⟨⟨Nat.le_of_ble_eq_true rfl, Nat.le_of_ble_eq_true rfl, Nat.le_of_ble_eq_true rfl, cal_174⟩, gw_372, Or.inl gw_371⟩) <| 
  mA0 rfl <| 
  mA1 rfl (⟨Nat.le_of_ble_eq_true rfl, rfl, Nat.le_of_ble_eq_true rfl, Nat.le_of_ble_eq_true rfl, gw_374, gw_16, by decide +kernel, 177, 113, "no such tailoring", List.mem_of_getElem? (i := 5) rfl, at_0, Or.inl ⟨by decide +kernel, by decide +kernel, by decide +kernel⟩⟩) <| 
  mA0 rfl <| 
  mA1 rfl (⟨_, rfl, Nat.le_of_ble_eq_true rfl, gw_305, rfl⟩) <| 
  mA0 rfl <| 
  mA1 rfl (⟨Nat.le_of_ble_eq_true rfl, Nat.le_of_ble_eq_true rfl⟩) <| 
  mA1 rfl (⟨⟨Nat.le_of_ble_eq_true rfl, Nat.le_of_ble_eq_true rfl, Nat.le_of_ble_eq_true rfl, cal_111⟩, rfl, gw_750, gw_751, gw_752, _, rfl, rfl⟩) <| 
  mA1 rfl (Or.inl ⟨rfl, rfl⟩) <| trivial

theorem mc_150 : mAllP 150 mt_150 :=
  mA0 rfl <| 
  mA1 rfl (⟨⟨Nat.le_of_ble_eq_true rfl, Nat.le_of_ble_eq_true rfl, Nat.le_of_ble_eq_true rfl, cal_174⟩, gw_372, Or.inl gw_371⟩) <| 
  mA0 rfl <| 
  mA0 rfl <| 
  mA0 rfl <| 
  mA0 rfl <| 
  mA0 rfl <| 
  mA1 rfl (⟨_, rfl, Nat.le_of_ble_eq_true rfl, gw_305, rfl⟩) <| 
  mA0 rfl <| 
  mA1 rfl (⟨Nat.le_of_ble_eq_true rfl, Nat.le_of_ble_eq_true rfl⟩) <| 
  mA1 rfl (⟨⟨Nat.le_of_ble_eq_true rfl, Nat.le_of_ble_eq_true rfl, Nat.le_of_ble_eq_true rfl, cal_110⟩, rfl, gw_1076, gw_1077, gw_1078, _, rfl, rfl⟩) <| 
  mA0 rfl <| 
  mA1 rfl (⟨Nat.le_of_ble_eq_true rfl, rfl, Nat.le_of_ble_eq_true rfl, Nat.le_of_ble_eq_true rfl, gw_374, gw_16, by decide +kernel, 369, 113, "no such tailoring or item", List.mem_of_getElem? (i := 25) rfl, at_0, Or.inr ⟨by decide +kernel, by decide +kernel, by decide +kernel⟩⟩) <| 
  mA0 rfl <| 
  mA1 rfl (⟨_, rfl, Nat.le_of_ble_eq_true rfl, gw_305, rfl⟩) <| 
  mA0 rfl <| 
  mA1 rfl (⟨Nat.le_of_ble_eq_true rfl, Nat.le_of_ble_eq_true rfl⟩) <| 
  mA0 rfl <| 
  mA1 rfl (⟨⟨Nat.le_of_ble_eq_true rfl, Nat.le_of_ble_eq_true rfl, Nat.le_of_ble_eq_true rfl, cal_112⟩, rfl, gw_1081, gw_1082, gw_1083, _, rfl, rfl⟩) <| 
  mA1 rfl (Or.inl ⟨rfl, rfl⟩) <| trivial

theorem mc_151 : mAllP 151 mt_151 :=
  trivial

theorem mc_152 : mAllP 152 mt_152 :=
  mA0 rfl <| 
  mA1 rfl (⟨⟨Nat.le_of_ble_eq_true rfl, Nat.le_of_ble_eq_true rfl, Nat.le_of_ble_eq_true rfl, cal_174⟩, gw_372, Or.inl gw_371⟩) <| 
  mA0 rfl <| 
  mA0 rfl <| 
  mA0 rfl <| 
  mA1 rfl (⟨⟨Nat.le_of_ble_eq_true rfl, Nat.le_of_ble_eq_true rfl, Nat.le_of_ble_eq_true rfl, cal_166⟩, rfl, gw_687, gw_689, gs_166, _, rfl, rfl⟩) <| 
  mA0 rfl <| 
  mA0 rfl <| 
  mA0 rfl <| 
  mA1 rfl (⟨Nat.le_of_ble_eq_true rfl, rfl, Nat.le_of_ble_eq_true rfl, Nat.le_of_ble_eq_true rfl, gw_374, gw_16, by decide +kernel, 374, 113, "no such tailoring, text or index", List.mem_of_getElem? (i := 31) rfl, at_0, Or.inr ⟨by decide +kernel, by decide +kernel, by decide +kernel⟩⟩) <| 
  mA0 rfl <| 
  mA1 rfl (⟨⟨Nat.le_of_ble_eq_true rfl, Nat.le_of_ble_eq_true rfl, Nat.le_of_ble_eq_true rfl, cal_175⟩, gw_1196, Or.inl gw_1195⟩) <| 
  mA0 rfl <| 
  mA1 rfl (⟨Nat.le_of_ble_eq_true rfl, rfl, Nat.le_of_ble_eq_true rfl, Nat.le_of_ble_eq_true rfl, gw_725, gw_18, by decide +kernel, 383, 183, "no such strength", List.mem_of_getElem? (i := 30) rfl, at_2, Or.inr ⟨by decide +kernel, by decide +kernel, by decide +kernel⟩⟩) <| 
  mA0 rfl <| 
  mA1 rfl (⟨_, rfl, Nat.le_of_ble_eq_true rfl, gw_315, rfl⟩) <| 
  mA0 rfl <| 
  mA1 rfl (⟨_, rfl, Nat.le_of_ble_eq_true rfl, gw_305, rfl⟩) <| 
  mA0 rfl <| 
  mA1 rfl (⟨Nat.le_of_ble_eq_true rfl, Nat.le_of_ble_eq_true rfl⟩) <| 
  mA0 rfl <| 
  mA0 rfl <| 
  mA0 rfl <| 
  mA1 rfl (⟨⟨Nat.le_of_ble_eq_true rfl, Nat.le_of_ble_eq_true rfl, Nat.le_of_ble_eq_true rfl, cal_169⟩, rfl, gw_475, gw_477, gs_169, _, rfl, rfl⟩) <| 
  mA0 rfl <| 
  mA1 rfl (⟨⟨Nat.le_of_ble_eq_true rfl, Nat.le_of_ble_eq_true rfl, Nat.le_of_ble_eq_true rfl, cal_7⟩, rfl, gw_1218, gw_1219, gw_1220, _, rfl, rfl⟩) <| 
  mA1 rfl (Or.inl ⟨rfl, rfl⟩) <| trivial

theorem mc_153 : mAllP 153 mt_153 :=
  mA0 rfl <| 
  mA1 rfl (⟨⟨Nat.le_of_ble_eq_true rfl, Nat.le_of_ble_eq_true rfl, Nat.le_of_ble_eq_true rfl, cal_174⟩, gw_372, Or.inl gw_371⟩) <| 
  mA0 rfl <| 
  mA0 rfl <| 
  mA0 rfl <| 
  mA1 rfl (⟨⟨Nat.le_of_ble_eq_true rfl, Nat.le_of_ble_eq_true rfl, Nat.le_of_ble_eq_true rfl, cal_166⟩, rfl, gw_687, gw_689, gs_166, _, rfl, rfl⟩) <| 
  mA0 rfl <| 
  mA0 rfl <| 
  mA0 rfl <| 
  mA1 rfl (⟨⟨Nat.le_of_ble_eq_true rfl, Nat.le_of_ble_eq_true rfl, Nat.le_of_ble_eq_true rfl, cal_166⟩, rfl, gw_687, gw_689, gs_166, _, rfl, rfl⟩) <| 
  mA0 rfl <| 
  mA1 rfl (⟨Nat.le_of_ble_eq_true rfl, rfl, Nat.le_of_ble_eq_true rfl, Nat.le_of_ble_eq_true rfl, gw_374, gw_16, by decide +kernel, 389, 113, "no such tailoring or text", List.mem_of_getElem? (i := 29) rfl, at_0, Or.inr ⟨by decide +kernel, by decide +kernel, by decide +kernel⟩⟩) <| 
  mA0 rfl <| 
  mA1 rfl (⟨⟨Nat.le_of_ble_eq_true rfl, Nat.le_of_ble_eq_true rfl, Nat.le_of_ble_eq_true rfl, cal_175⟩, gw_1196, Or.inl gw_1195⟩) <| 
  mA0 rfl <| 
  mA1 rfl (⟨Nat.le_of_ble_eq_true rfl, rfl, Nat.le_of_ble_eq_true rfl, Nat.le_of_ble_eq_true rfl, gw_725, gw_18, by decide +kernel, 383, 183, "no such strength", List.mem_of_getElem? (i := 30) rfl, at_2, Or.inr ⟨by decide +kernel, by decide +kernel, by decide +kernel⟩⟩) <| 
  mA0 rfl <| 
  mA1 rfl (⟨_, rfl, Nat.le_of_ble_eq_true rfl, gw_315, rfl⟩) <| 
  mA0 rfl <| 
  mA1 rfl (⟨_, rfl, Nat.le_of_ble_eq_true rfl, gw_305, rfl⟩) <| 
  mA0 rfl <| 
  mA1 rfl (⟨Nat.le_of_ble_eq_true rfl, Nat.le_of_ble_eq_true rfl⟩) <| 
  mA0 rfl <| 
  mA0 rfl <| 
  mA0 rfl <| 
  mA1 rfl (⟨⟨Nat.le_of_ble_eq_true rfl, Nat.le_of_ble_eq_true rfl, Nat.le_of_ble_eq_true rfl, cal_169⟩, rfl, gw_475, gw_477, gs_169, _, rfl, rfl⟩) <| 
  mA0 rfl <| 
  mA0 rfl <| 
  mA1 rfl (⟨⟨Nat.le_of_ble_eq_true rfl, Nat.le_of_ble_eq_true rfl, Nat.le_of_ble_eq_true rfl, cal_169⟩, rfl, gw_475, gw_477, gs_169, _, rfl, rfl⟩) <| 
  mA1 rfl (⟨⟨Nat.le_of_ble_eq_true rfl, Nat.le_of_ble_eq_true rfl, Nat.le_of_ble_eq_true rfl, cal_8⟩, rfl, gw_1199, gw_1200, gw_1201, _, rfl, rfl⟩) <| 
  mA1 rfl (Or.inl ⟨rfl, rfl⟩) <| trivial

theorem mc_154 : mAllP 154 mt_154 :=
  mA0 rfl <| 
  mA1 rfl (⟨⟨Nat.le_of_ble_eq_true rfl, Nat.le_of_ble_eq_true rfl, Nat.le_of_ble_eq_true rfl, cal_174⟩, gw_372, Or.inl gw_371⟩) <| 
  mA0 rfl <| 
  mA0 rfl <| 
  mA0 rfl <| 
  mA1 rfl (⟨⟨Nat.le_of_ble_eq_true rfl, Nat.le_of_ble_eq_true rfl, Nat.le_of_ble_eq_true rfl, cal_166⟩, rfl, gw_687, gw_689, gs_166, _, rfl, rfl⟩) <| 
  mA0 rfl <| 
  mA0 rfl <| 
  mA0 rfl <| 
  mA1 rfl (⟨⟨Nat.le_of_ble_eq_true rfl, Nat.le_of_ble_eq_true rfl, Nat.le_of_ble_eq_true rfl, cal_166⟩, rfl, gw_687, gw_689, gs_166, _, rfl, rfl⟩) <| 
  mA0 rfl <| 
  mA1 rfl (⟨Nat.le_of_ble_eq_true rfl, rfl, Nat.le_of_ble_eq_true rfl, Nat.le_of_ble_eq_true rfl, gw_374, gw_16, by decide +kernel, 389, 113, "no such tailoring or text", List.mem_of_getElem? (i := 29) rfl, at_0, Or.inr ⟨by decide +kernel, by decide +kernel, by decide +kernel⟩⟩) <| 
  mA0 rfl <| 
  mA1 rfl (⟨⟨Nat.le_of_ble_eq_true rfl, Nat.le_of_ble_eq_true rfl, Nat.le_of_ble_eq_true rfl, cal_175⟩, gw_1196, Or.inl gw_1195⟩) <| 
  mA0 rfl <| 
  mA1 rfl (⟨Nat.le_of_ble_eq_true rfl, rfl, Nat.le_of_ble_eq_true rfl, Nat.le_of_ble_eq_true rfl, gw_725, gw_18, by decide +kernel, 383, 183, "no such strength", List.mem_of_getElem? (i := 30) rfl, at_2, Or.inr ⟨by decide +kernel, by decide +kernel, by decide +kernel⟩⟩) <| 
  mA0 rfl <| 
  mA1 rfl (⟨_, rfl, Nat.le_of_ble_eq_true rfl, gw_315, rfl⟩) <| 
  mA0 rfl <| 
  mA1 rfl (⟨_, rfl, Nat.le_of_ble_eq_true rfl, gw_305, rfl⟩) <| 
  mA0 rfl <| 
  mA1 rfl (⟨Nat.le_of_ble_eq_true rfl, Nat.le_of_ble_eq_true rfl⟩) <| 
  mA0 rfl <| 
  mA0 rfl <| 
  mA0 rfl <| 
  mA1 rfl (⟨⟨Nat.le_of_ble_eq_true rfl, Nat.le_of_ble_eq_true rfl, Nat.le_of_ble_eq_true rfl, cal_169⟩, rfl, gw_475, gw_477, gs_169, _, rfl, rfl⟩) <| 
  mA0 rfl <| 
  mA0 rfl <| 
  mA1 rfl (⟨⟨Nat.le_of_ble_eq_true rfl, Nat.le_of_ble_eq_true rfl, Nat.le_of_ble_eq_true rfl, cal_169⟩, rfl, gw_475, gw_477, gs_169, _, rfl, rfl⟩) <| 
  mA1 rfl (⟨⟨Nat.le_of_ble_eq_true rfl, Nat.le_of_ble_eq_true rfl, Nat.le_of_ble_eq_true rfl, cal_9⟩, rfl, gw_1209, gw_1210, gw_1211, _, rfl, rfl⟩) <| 
  mA1 rfl (Or.inl ⟨rfl, rfl⟩) <| trivial

theorem mc_155 : mAllP 155 mt_155 :=
  trivial

theorem mc_156 : mAllP 156 mt_156 :=
  mA0 rfl <| 
  mA1 rfl (⟨_, rfl, Nat.le_of_ble_eq_true rfl, gw_309, rfl⟩) <| 
  mA1 rfl (Or.inl ⟨rfl, rfl⟩) <| trivial

theorem mc_157 : mAllP 157 mt_157 :=
  mA0 rfl <| 
  mA1 rfl (⟨⟨Nat.le_of_ble_eq_true rfl, Nat.le_of_ble_eq_true rfl, Nat.le_of_ble_eq_true rfl, cal_174⟩, gw_372, Or.inl gw_371⟩) <| 
  mA0 rfl <| 
  mA0 rfl <| 
  mA0 rfl <| 
  mA0 rfl <| 
  mA0 rfl <| 
  mA0 rfl <| 
  mA1 rfl (⟨⟨Nat.le_of_ble_eq_true rfl, Nat.le_of_ble_eq_true rfl, Nat.le_of_ble_eq_true rfl, cal_188⟩, rfl, gw_442, gw_444, gs_188, _, rfl, rfl⟩) <| 
  mA1 rfl (⟨⟨Nat.le_of_ble_eq_true rfl, Nat.le_of_ble_eq_true rfl, Nat.le_of_ble_eq_true rfl, cal_93⟩, rfl, gw_365, gw_91, gw_92, _, rfl, rfl⟩) <| 
  mA0 rfl <| 
  mA1 rfl (⟨Nat.le_of_ble_eq_true rfl, rfl, Nat.le_of_ble_eq_true rfl, Nat.le_of_ble_eq_true rfl, gw_374, gw_16, by decide +kernel, 404, 113, "no such index or place", List.mem_of_getElem? (i := 24) rfl, at_0, Or.inr ⟨by decide +kernel, by decide +kernel, by decide +kernel⟩⟩) <| 
  mA0 rfl <| 
  mA0 rfl <| 
  mA1 rfl (⟨⟨Nat.le_of_ble_eq_true rfl, Nat.le_of_ble_eq_true rfl, Nat.le_of_ble_eq_true rfl, cal_188⟩, rfl, gw_442, gw_444, gs_188, _, rfl, rfl⟩) <| 
  mA0 rfl <| 
  mA1 rfl (⟨⟨Nat.le_of_ble_eq_true rfl, Nat.le_of_ble_eq_true rfl, Nat.le_of_ble_eq_true rfl, cal_95⟩, rfl, gw_569, gw_95, gw_96, _, rfl, rfl⟩) <| 
  mA1 rfl (Or.inl ⟨rfl, rfl⟩) <| trivial

theorem mc_158 : mAllP 158 mt_158 :=
  mA0 rfl <| 
  mA0 rfl <| 
  mA0 rfl <| 
  mA1 rfl (⟨⟨Nat.le_of_ble_eq_true rfl, Nat.le_of_ble_eq_true rfl, Nat.le_of_ble_eq_true rfl, cal_168⟩, rfl, gw_1090, gw_1092, gs_168, _, rfl, rfl⟩) <| 
  mA0 rfl <| 
  mA1 rfl (⟨Nat.le_of_ble_eq_true rfl, rfl, Nat.le_of_ble_eq_true rfl, Nat.le_of_ble_eq_true rfl, gw_374, gw_16, by decide +kernel, 409, 113, "no such index, or entry in it", List.mem_of_getElem? (i := 26) rfl, at_0, Or.inr ⟨by decide +kernel, by decide +kernel, by decide +kernel⟩⟩) <| 
  mA0 rfl <| 
  mA0 rfl <| 
  mA1 rfl (⟨⟨Nat.le_of_ble_eq_true rfl, Nat.le_of_ble_eq_true rfl, Nat.le_of_ble_eq_true rfl, cal_188⟩, rfl, gw_442, gw_444, gs_188, _, rfl, rfl⟩) <| 
  mA0 rfl <| 
  mA0 rfl <| 
  mA0 rfl <| 
  mA0 rfl <| 
  mA1 rfl (⟨⟨Nat.le_of_ble_eq_true rfl, Nat.le_of_ble_eq_true rfl, Nat.le_of_ble_eq_true rfl, cal_194⟩, rfl, gw_1099, gw_1101, gs_194, _, rfl, rfl⟩) <| 
  mA1 rfl (Or.inl ⟨rfl, rfl⟩) <| trivial

theorem mc_159 : mAllP 159 mt_159 :=
  mA0 rfl <| 
  mA0 rfl <| 
  mA1 rfl (⟨⟨Nat.le_of_ble_eq_true rfl, Nat.le_of_ble_eq_true rfl, Nat.le_of_ble_eq_true rfl, cal_167⟩, rfl, gw_762, gw_764, gs_167, _, rfl, rfl⟩) <| 
  mA0 rfl <| 
  mA0 rfl <| 
  mA0 rfl <| 
  mA1 rfl (⟨Nat.le_of_ble_eq_true rfl, rfl, Nat.le_of_ble_eq_true rfl, Nat.le_of_ble_eq_true rfl, gw_374, gw_16, by decide +kernel, 414, 113, "no such entry or group", List.mem_of_getElem? (i := 32) rfl, at_0, Or.inr ⟨by decide +kernel, by decide +kernel, by decide +kernel⟩⟩) <| 
  mA0 rfl <| 
  mA1 rfl (⟨_, rfl, Nat.le_of_ble_eq_true rfl, gw_319, rfl⟩) <| 
  mA0 rfl <| 
  mA0 rfl <| 
  mA1 rfl (⟨⟨Nat.le_of_ble_eq_true rfl, Nat.le_of_ble_eq_true rfl, Nat.le_of_ble_eq_true rfl, cal_171⟩, rfl, gw_463, gw_465, gs_171, _, rfl, rfl⟩) <| 
  mA1 rfl (⟨⟨Nat.le_of_ble_eq_true rfl, Nat.le_of_ble_eq_true rfl, Nat.le_of_ble_eq_true rfl, cal_59⟩, rfl, gw_775, gw_776, gw_777, _, rfl, rfl⟩) <| 
  mA1 rfl (⟨⟨Nat.le_of_ble_eq_true rfl, Nat.le_of_ble_eq_true rfl, Nat.le_of_ble_eq_true rfl, cal_74⟩, rfl, gw_1131, gw_1132, gw_1133, _, rfl, rfl⟩) <| 
  mA0 rfl <| 
  mA1 rfl (⟨_, rfl, Nat.le_of_ble_eq_true rfl, gw_319, rfl⟩) <| 
  mA0 rfl <| 
  mA1 rfl (⟨⟨Nat.le_of_ble_eq_true rfl, Nat.le_of_ble_eq_true rfl, Nat.le_of_ble_eq_true rfl, cal_73⟩, rfl, gw_1241, gw_1242, gw_1243, _, rfl, rfl⟩) <| 
  mA1 rfl (Or.inl ⟨rfl, rfl⟩) <| trivial

theorem mc_160 : mAllP 160 mt_160 :=
  mA0 rfl <| 
  mA0 rfl <| 
  mA1 rfl (⟨⟨Nat.le_of_ble_eq_true rfl, Nat.le_of_ble_eq_true rfl, Nat.le_of_ble_eq_true rfl, cal_167⟩, rfl, gw_762, gw_764, gs_167, _, rfl, rfl⟩) <| 
  mA0 rfl <| 
  mA1 rfl (⟨Nat.le_of_ble_eq_true rfl, rfl, Nat.le_of_ble_eq_true rfl, Nat.le_of_ble_eq_true rfl, gw_374, gw_16, by decide +kernel, 259, 113, "no such entry", List.mem_of_getElem? (i := 6) rfl, at_0, Or.inr ⟨by decide +kernel, by decide +kernel, by decide +kernel⟩⟩) <| 
  mA0 rfl <| 
  mA0 rfl <| 
  mA1 rfl (⟨⟨Nat.le_of_ble_eq_true rfl, Nat.le_of_ble_eq_true rfl, Nat.le_of_ble_eq_true rfl, cal_197⟩, rfl, gw_767, gw_769, gs_197, _, rfl, rfl⟩) <| 
  mA1 rfl (Or.inl ⟨rfl, rfl⟩) <| trivial

theorem mc_161 : mAllP 161 mt_161 :=
  mA0 rfl <| 
  mA0 rfl <| 
  mA0 rfl <| 
  mA0 rfl <| 
  mA0 rfl <| 
  mA0 rfl <| 
  mA1 rfl (⟨_, rfl, Nat.le_of_ble_eq_true rfl, gw_309, rfl⟩) <| 
  mA0 rfl <| 
  mA0 rfl <| 
  mA0 rfl <| 
  mA1 rfl (⟨⟨Nat.le_of_ble_eq_true rfl, Nat.le_of_ble_eq_true rfl, Nat.le_of_ble_eq_true rfl, cal_197⟩, rfl, gw_767, gw_769, gs_197, _, rfl, rfl⟩) <| 
  mA0 rfl <| 
  mA0 rfl <| 
  mA0 rfl <| 
  mA0 rfl <| 
  mA0 rfl <| 
  mA1 rfl (⟨⟨Nat.le_of_ble_eq_true rfl, Nat.le_of_ble_eq_true rfl, Nat.le_of_ble_eq_true rfl, cal_199⟩, rfl, gw_791, gw_793, gs_199, _, rfl, rfl⟩) <| 
  mA0 rfl <| 
  mA0 rfl <| 
  mA0 rfl <| 
  mA0 rfl <| 
  mA0 rfl <| 
  mA1 rfl (Or.inl ⟨rfl, rfl⟩) <| trivial

theorem mc_162 : mAllP 162 mt_162 :=
  mA0 rfl <| 
  mA1 rfl (⟨⟨Nat.le_of_ble_eq_true rfl, Nat.le_of_ble_eq_true rfl, Nat.le_of_ble_eq_true rfl, cal_174⟩, gw_372, Or.inl gw_371⟩) <| 
  mA0 rfl <| 
  mA1 rfl (⟨Nat.le_of_ble_eq_true rfl, rfl, Nat.le_of_ble_eq_true rfl, Nat.le_of_ble_eq_true rfl, gw_374, gw_16, by decide +kernel, 428, 113, "no such index", List.mem_of_getElem? (i := 7) rfl, at_0, Or.inr ⟨by decide +kernel, by decide +kernel, by decide +kernel⟩⟩) <| 
  mA0 rfl <| 
  mA0 rfl <| 
  mA1 rfl (⟨⟨Nat.le_of_ble_eq_true rfl, Nat.le_of_ble_eq_true rfl, Nat.le_of_ble_eq_true rfl, cal_188⟩, rfl, gw_442, gw_444, gs_188, _, rfl, rfl⟩) <| 
  mA0 rfl <| 
  mA0 rfl <| 
  mA1 rfl (⟨_, rfl, Nat.le_of_ble_eq_true rfl, gw_310, rfl⟩) <| 
  mA0 rfl <| 
  mA1 rfl (⟨Nat.le_of_ble_eq_true rfl, Nat.le_of_ble_eq_true rfl⟩) <| 
  mA1 rfl (⟨⟨Nat.le_of_ble_eq_true rfl, Nat.le_of_ble_eq_true rfl, Nat.le_of_ble_eq_true rfl, cal_84⟩, rfl, gw_804, gw_805, gw_806, _, rfl, rfl⟩) <| 
  mA0 rfl <| 
  mA0 rfl <| 
  mA0 rfl <| 
  mA0 rfl <| 
  mA0 rfl <| 
  mA0 rfl <| 
  mA0 rfl <| 
  mA1 rfl (⟨⟨Nat.le_of_ble_eq_true rfl, Nat.le_of_ble_eq_true rfl, Nat.le_of_ble_eq_true rfl, cal_93⟩, rfl, gw_365, gw_91, gw_92, _, rfl, rfl⟩) <| 
  mA0 rfl <| 
  mA0 rfl <| 
  mA0 rfl <| 
  mA0 rfl <| 
  mA1 rfl (⟨⟨Nat.le_of_ble_eq_true rfl, Nat.le_of_ble_eq_true rfl, Nat.le_of_ble_eq_true rfl, cal_95⟩, rfl, gw_569, gw_95, gw_96, _, rfl, rfl⟩) <| 
  mA0 rfl <| 
  mA0 rfl <| 
  mA1 rfl (⟨⟨Nat.le_of_ble_eq_true rfl, Nat.le_of_ble_eq_true rfl, Nat.le_of_ble_eq_true rfl, cal_95⟩, rfl, gw_569, gw_95, gw_96, _, rfl, rfl⟩) <| 
  mA0 rfl <| 
  mA0 rfl <| 
  mA0 rfl <| 
  mA0 rfl <| 
  mA0 rfl <| 
  mA0 rfl <| 
  mA0 rfl <| 
  mA0 rfl <| 
  mA0 rfl <| 
  mA1 rfl (Or.inl ⟨rfl, rfl⟩) <| trivial

theorem mc_163 : mAllP 163 mt_163 :=
  mA0 rfl <| 
  mA0 rfl <| 
  mA0 rfl <| 
  mA1 rfl (⟨⟨Nat.le_of_ble_eq_true rfl, Nat.le_of_ble_eq_true rfl, Nat.le_of_ble_eq_true rfl, cal_168⟩, rfl, gw_1090, gw_1092, gs_168, _, rfl, rfl⟩) <| 
  mA0 rfl <| 
  mA1 rfl (⟨Nat.le_of_ble_eq_true rfl, rfl, Nat.le_of_ble_eq_true rfl, Nat.le_of_ble_eq_true rfl, gw_374, gw_16, by decide +kernel, 409, 113, "no such index, or entry in it", List.mem_of_getElem? (i := 26) rfl, at_0, Or.inr ⟨by decide +kernel, by decide +kernel, by decide +kernel⟩⟩) <| 
  mA0 rfl <| 
  mA0 rfl <| 
  mA0 rfl <| 
  mA0 rfl <| 
  mA1 rfl (⟨⟨Nat.le_of_ble_eq_true rfl, Nat.le_of_ble_eq_true rfl, Nat.le_of_ble_eq_true rfl, cal_188⟩, rfl, gw_442, gw_444, gs_188, _, rfl, rfl⟩) <| 
  mA0 rfl <| 
  mA1 rfl (⟨⟨Nat.le_of_ble_eq_true rfl, Nat.le_of_ble_eq_true rfl, Nat.le_of_ble_eq_true rfl, cal_200⟩, rfl, gw_1095, gw_1097, gs_200, _, rfl, rfl⟩) <| 
  mA1 rfl (Or.inl ⟨rfl, rfl⟩) <| trivial

theorem mc_164 : mAllP 164 mt_164 :=
  mA0 rfl <| 
  mA0 rfl <| 
  mA1 rfl (⟨⟨Nat.le_of_ble_eq_true rfl, Nat.le_of_ble_eq_true rfl, Nat.le_of_ble_eq_true rfl, cal_166⟩, rfl, gw_687, gw_689, gs_166, _, rfl, rfl⟩) <| 
  mA0 rfl <| 
  mA0 rfl <| 
  mA0 rfl <| 
  mA0 rfl <| 
  mA0 rfl <| 
  mA1 rfl (⟨_, rfl, Nat.le_of_ble_eq_true rfl, gw_311, rfl⟩) <| 
  mA0 rfl <| 
  mA1 rfl (⟨⟨Nat.le_of_ble_eq_true rfl, Nat.le_of_ble_eq_true rfl, Nat.le_of_ble_eq_true rfl, cal_33⟩, rfl, gw_1021, gw_1022, gw_1023, _, rfl, rfl⟩) <| 
  mA0 rfl <| 
  mA1 rfl (⟨Nat.le_of_ble_eq_true rfl, rfl, Nat.le_of_ble_eq_true rfl, Nat.le_of_ble_eq_true rfl, gw_374, gw_16, by decide +kernel, 440, 113, "no such text or line", List.mem_of_getElem? (i := 23) rfl, at_0, Or.inr ⟨by decide +kernel, by decide +kernel, by decide +kernel⟩⟩) <| 
  mA0 rfl <| 
  mA0 rfl <| 
  mA0 rfl <| 
  mA1 rfl (⟨⟨Nat.le_of_ble_eq_true rfl, Nat.le_of_ble_eq_true rfl, Nat.le_of_ble_eq_true rfl, cal_203⟩, rfl, gw_1045, gw_1047, gs_203, _, rfl, rfl⟩) <| 
  mA0 rfl <| 
  mA1 rfl (⟨_, rfl, Nat.le_of_ble_eq_true rfl, gw_318, rfl⟩) <| 
  mA0 rfl <| 
  mA1 rfl (⟨⟨Nat.le_of_ble_eq_true rfl, Nat.le_of_ble_eq_true rfl, Nat.le_of_ble_eq_true rfl, cal_95⟩, rfl, gw_569, gw_95, gw_96, _, rfl, rfl⟩) <| 
  mA1 rfl (Or.inl ⟨rfl, rfl⟩) <| trivial

theorem mc_165 : mAllP 165 mt_165 :=
  mA0 rfl <| 
  mA0 rfl <| 
  mA0 rfl <| 
  mA0 rfl <| 
  mA0 rfl <| 
  mA0 rfl <| 
  mA1 rfl (⟨_, rfl, Nat.le_of_ble_eq_true rfl, gw_300, rfl⟩) <| 
  mA0 rfl <| 
  mA1 rfl (⟨⟨Nat.le_of_ble_eq_true rfl, Nat.le_of_ble_eq_true rfl, Nat.le_of_ble_eq_true rfl, cal_14⟩, rfl, gw_825, gw_826, gw_827, _, rfl, rfl⟩) <| 
  mA0 rfl <| 
  mA0 rfl <| 
  mA0 rfl <| 
  mA0 rfl <| 
  mA1 rfl (Or.inr ⟨by decide, rfl⟩) <| trivial

theorem mc_166 : mAllP 166 mt_166 :=
  mA0 rfl <| 
  mA0 rfl <| 
  mA0 rfl <| 
  mA0 rfl <| 
  mA1 rfl (⟨_, rfl, Nat.le_of_ble_eq_true rfl, gw_304, rfl⟩) <| 
  mA0 rfl <| 
  mA0 rfl <| 
  mA0 rfl <| 
  mA0 rfl <| 
  mA1 rfl (Or.inr ⟨by decide, rfl⟩) <| trivial

theorem mc_167 : mAllP 167 mt_167 :=
  mA0 rfl <| 
  mA0 rfl <| 
  mA0 rfl <| 
  mA0 rfl <| 
  mA1 rfl (⟨_, rfl, Nat.le_of_ble_eq_true rfl, gw_309, rfl⟩) <| 
  mA0 rfl <| 
  mA0 rfl <| 
  mA0 rfl <| 
  mA0 rfl <| 
  mA1 rfl (Or.inr ⟨by decide, rfl⟩) <| trivial

theorem mc_168 : mAllP 168 mt_168 :=
  mA0 rfl <| 
  mA1 rfl (⟨⟨Nat.le_of_ble_eq_true rfl, Nat.le_of_ble_eq_true rfl, Nat.le_of_ble_eq_true rfl, cal_174⟩, gw_372, Or.inl gw_371⟩) <| 
  mA0 rfl <| 
  mA0 rfl <| 
  mA0 rfl <| 
  mA1 rfl (⟨⟨Nat.le_of_ble_eq_true rfl, Nat.le_of_ble_eq_true rfl, Nat.le_of_ble_eq_true rfl, cal_167⟩, rfl, gw_762, gw_764, gs_167, _, rfl, rfl⟩) <| 
  mA0 rfl <| 
  mA0 rfl <| 
  mA0 rfl <| 
  mA1 rfl (⟨⟨Nat.le_of_ble_eq_true rfl, Nat.le_of_ble_eq_true rfl, Nat.le_of_ble_eq_true rfl, cal_171⟩, rfl, gw_463, gw_465, gs_171, _, rfl, rfl⟩) <| 
  mA0 rfl <| 
  mA1 rfl (⟨⟨Nat.le_of_ble_eq_true rfl, Nat.le_of_ble_eq_true rfl, Nat.le_of_ble_eq_true rfl, cal_54⟩, rfl, gw_630, gw_631, gw_632, _, rfl, rfl⟩) <| 
  mA0 rfl <| 
  mA0 rfl <| 
  mA0 rfl <| 
  mA0 rfl <| 
  mA1 rfl (Or.inr ⟨by decide, rfl⟩) <| trivial

theorem mc_169 : mAllP 169 mt_169 :=
  mA0 rfl <| 
  mA1 rfl (⟨_, rfl, Nat.le_of_ble_eq_true rfl, gw_303, rfl⟩) <| 
  mA0 rfl <| 
  mA0 rfl <| 
  mA0 rfl <| 
  mA0 rfl <| 
  mA0 rfl <| 
  mA0 rfl <| 
  mA0 rfl <| 
  mA0 rfl <| 
  mA1 rfl (⟨Nat.le_of_ble_eq_true rfl, Nat.le_of_ble_eq_true rfl⟩) <| 
  mA1 rfl (⟨_, rfl⟩) <| trivial

theorem mc_170 : mAllP 170 mt_170 :=
  mA0 rfl <| 
  mA1 rfl (⟨_, rfl, Nat.le_of_ble_eq_true rfl, gw_316, rfl⟩) <| 
  mA0 rfl <| 
  mA0 rfl <| 
  mA0 rfl <| 
  mA0 rfl <| 
  mA0 rfl <| 
  mA0 rfl <| 
  mA0 rfl <| 
  mA0 rfl <| 
  mA1 rfl (⟨Nat.le_of_ble_eq_true rfl, Nat.le_of_ble_eq_true rfl⟩) <| 
  mA1 rfl (⟨_, rfl⟩) <| trivial

theorem mc_171 : mAllP 171 mt_171 :=
  mA0 rfl <| 
  mA1 rfl (⟨_, rfl, Nat.le_of_ble_eq_true rfl, gw_308, rfl⟩) <| 
  mA0 rfl <| 
  mA0 rfl <| 
  mA0 rfl <| 
  mA0 rfl <| 
  mA0 rfl <| 
  mA0 rfl <| 
  mA0 rfl <| 
  mA0 rfl <| 
  mA1 rfl (⟨Nat.le_of_ble_eq_true rfl, Nat.le_of_ble_eq_true rfl⟩) <| 
  mA1 rfl (⟨_, rfl⟩) <| trivial

theorem mc_172 : mAllP 172 mt_172 :=
  mA0 rfl <| 
  mA1 rfl (⟨_, rfl, Nat.le_of_ble_eq_true rfl, gw_305, rfl⟩) <| 
  mA0 rfl <| 
  mA1 rfl (⟨⟨Nat.le_of_ble_eq_true rfl, Nat.le_of_ble_eq_true rfl, Nat.le_of_ble_eq_true rfl, cal_174⟩, gw_372, Or.inl gw_371⟩) <| 
  mA0 rfl <| 
  mA0 rfl <| 
  mA0 rfl <| 
  mA0 rfl <| 
  mA1 rfl (⟨Nat.le_of_ble_eq_true rfl, Nat.le_of_ble_eq_true rfl⟩) <| 
  mA1 rfl (⟨_, rfl⟩) <| trivial

theorem mc_173 : mAllP 173 mt_173 :=
  mA0 rfl <| 
  mA1 rfl (⟨_, rfl, Nat.le_of_ble_eq_true rfl, gw_310, rfl⟩) <| 
  mA0 rfl <| 
  mA1 rfl (⟨⟨Nat.le_of_ble_eq_true rfl, Nat.le_of_ble_eq_true rfl, Nat.le_of_ble_eq_true rfl, cal_174⟩, gw_372, Or.inl gw_371⟩) <| 
  mA0 rfl <| 
  mA0 rfl <| 
  mA0 rfl <| 
  mA0 rfl <| 
  mA1 rfl (⟨Nat.le_of_ble_eq_true rfl, Nat.le_of_ble_eq_true rfl⟩) <| 
  mA1 rfl (⟨_, rfl⟩) <| trivial

theorem mc_174 : mAllP 174 mt_174 :=
  mA0 rfl <| 
  mA0 rfl <| 
  mA0 rfl <| 
  mA0 rfl <| 
  mA0 rfl <| 
  mA0 rfl <| 
  mA0 rfl <| 
  mA0 rfl <| 
  mA1 rfl (Or.inr ⟨by decide, rfl⟩) <| trivial

theorem mc_175 : mAllP 175 mt_175 :=
  mA0 rfl <| 
  mA0 rfl <| 
  mA0 rfl <| 
  mA0 rfl <| 
  mA0 rfl <| 
  mA0 rfl <| 
  mA0 rfl <| 
  mA0 rfl <| 
  mA0 rfl <| 
  mA1 rfl (Or.inr ⟨by decide, rfl⟩) <| trivial

theorem mc_176 : mAllP 176 mt_176 :=
  mA0 rfl <| 
  mA0 rfl <| 
  mA0 rfl <| 
  mA0 rfl <| 
  mA0 rfl <| 
  mA0 rfl <| 
  mA0 rfl <| 
  mA0 rfl <| 
  mA0 rfl <| 
  mA1 rfl (Or.inr ⟨by decide, rfl⟩) <| trivial

theorem mc_177 : mAllP 177 mt_177 :=
  mA0 rfl <| 
  mA0 rfl <| 
  mA0 rfl <| 
  mA0 rfl <| 
  mA0 rfl <| 
  mA0 rfl <| 
  mA0 rfl <| 
  mA0 rfl <| 
  mA0 rfl <| 
  mA1 rfl (Or.inr ⟨by decide, rfl⟩) <| trivial

theorem mc_178 : mAllP 178 mt_178 :=
  mA0 rfl <| 
  mA0 rfl <| 
  mA0 rfl <| 
  mA0 rfl <| 
  mA0 rfl <| 
  mA0 rfl <| 
  mA0 rfl <| 
  mA0 rfl <| 
  mA1 rfl (Or.inr ⟨by decide, rfl⟩) <| trivial
