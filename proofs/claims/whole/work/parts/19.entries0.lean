/-! Each entry's facts. -/

theorem mc_0 : mAllP 0 mt_0 :=
  mA0 rfl <| 
  mA1 rfl (⟨gw_176, gw_27, gw_28, Nat.le_of_ble_eq_true rfl, Nat.le_of_ble_eq_true rfl⟩) <| 
  mA0 rfl <| 
  mA1 rfl (⟨_, rfl, gw_177, gw_178, gw_9⟩) <| 
  mA0 rfl <| 
  mA1 rfl (⟨⟨Nat.le_of_ble_eq_true rfl, Nat.le_of_ble_eq_true rfl, Nat.le_of_ble_eq_true rfl, cal_34⟩, rfl, rfl, (fun E => ⟨(100000, 0), rfl, mNone _⟩), gw_180, rfl, Or.inr ⟨_, List.mem_of_getElem? (i := 3) rfl⟩⟩) <| 
  mA1 rfl (⟨_, rfl, Nat.le_of_ble_eq_true rfl, gw_206, rfl, Or.inr ⟨rfl, ini_0, rfl⟩⟩) <| 
  mA0 rfl <| 
  mA1 rfl (⟨_, rfl, gw_177, gw_178, gw_9⟩) <| 
  mA0 rfl <| 
  mA1 rfl (⟨⟨Nat.le_of_ble_eq_true rfl, Nat.le_of_ble_eq_true rfl, Nat.le_of_ble_eq_true rfl, cal_34⟩, rfl, rfl, (fun E => ⟨(100000, 0), rfl, mNone _⟩), gw_180, rfl, Or.inr ⟨_, List.mem_of_getElem? (i := 3) rfl⟩⟩) <| 
  mA1 rfl (⟨_, rfl, Nat.le_of_ble_eq_true rfl, gw_207, rfl, Or.inr ⟨rfl, ini_0, rfl⟩⟩) <| 
  mA0 rfl <| 
  mA1 rfl (⟨_, rfl, gw_204, gw_47, gw_3⟩) <| 
  mA0 rfl <| 
  mA0 rfl <| 
  mA1 rfl (⟨⟨Nat.le_of_ble_eq_true rfl, Nat.le_of_ble_eq_true rfl, Nat.le_of_ble_eq_true rfl, cal_92⟩, rfl, rfl, (fun E => ⟨(100000, 0), rfl, mNone _⟩), gw_49, rfl, Or.inl gw_205⟩) <| 
  mA1 rfl (⟨_, rfl, Nat.le_of_ble_eq_true rfl, gw_208, rfl, Or.inr ⟨rfl, ini_0, rfl⟩⟩) <| 
  mA0 rfl <| 
  mA1 rfl (⟨_, rfl, gw_204, gw_47, gw_3⟩) <| 
  mA0 rfl <| 
  mA0 rfl <| 
  mA1 rfl (⟨⟨Nat.le_of_ble_eq_true rfl, Nat.le_of_ble_eq_true rfl, Nat.le_of_ble_eq_true rfl, cal_92⟩, rfl, rfl, (fun E => ⟨(100000, 0), rfl, mNone _⟩), gw_49, rfl, Or.inl gw_205⟩) <| 
  mA1 rfl (⟨_, rfl, Nat.le_of_ble_eq_true rfl, gw_209, rfl, Or.inr ⟨rfl, ini_0, rfl⟩⟩) <| 
  mA0 rfl <| 
  mA1 rfl (⟨_, rfl, gw_204, gw_47, gw_3⟩) <| 
  mA0 rfl <| 
  mA0 rfl <| 
  mA1 rfl (⟨⟨Nat.le_of_ble_eq_true rfl, Nat.le_of_ble_eq_true rfl, Nat.le_of_ble_eq_true rfl, cal_92⟩, rfl, rfl, (fun E => ⟨(100000, 0), rfl, mNone _⟩), gw_49, rfl, Or.inl gw_205⟩) <| 
  mA1 rfl (⟨_, rfl, Nat.le_of_ble_eq_true rfl, gw_210, rfl, Or.inr ⟨rfl, ini_0, rfl⟩⟩) <| 
  mA0 rfl <| 
  mA1 rfl (⟨_, rfl, gw_204, gw_47, gw_3⟩) <| 
  mA0 rfl <| 
  mA0 rfl <| 
  mA1 rfl (⟨⟨Nat.le_of_ble_eq_true rfl, Nat.le_of_ble_eq_true rfl, Nat.le_of_ble_eq_true rfl, cal_92⟩, rfl, rfl, (fun E => ⟨(100000, 0), rfl, mNone _⟩), gw_49, rfl, Or.inl gw_205⟩) <| 
  mA1 rfl (⟨_, rfl, Nat.le_of_ble_eq_true rfl, gw_211, rfl, Or.inr ⟨rfl, ini_0, rfl⟩⟩) <| 
  mA0 rfl <| 
  mA1 rfl (⟨_, rfl, gw_204, gw_47, gw_3⟩) <| 
  mA0 rfl <| 
  mA0 rfl <| 
  mA1 rfl (⟨⟨Nat.le_of_ble_eq_true rfl, Nat.le_of_ble_eq_true rfl, Nat.le_of_ble_eq_true rfl, cal_92⟩, rfl, rfl, (fun E => ⟨(100000, 0), rfl, mNone _⟩), gw_49, rfl, Or.inl gw_205⟩) <| 
  mA1 rfl (⟨_, rfl, Nat.le_of_ble_eq_true rfl, gw_212, rfl, Or.inr ⟨rfl, ini_0, rfl⟩⟩) <| 
  mA1 rfl (rfl) <| trivial

theorem mc_1 : mAllP 1 mt_1 :=
  mA0 rfl <| 
  mA1 rfl (⟨_, rfl, Nat.le_of_ble_eq_true rfl, gw_206, rfl⟩) <| 
  mA0 rfl <| 
  mA0 rfl <| 
  mA1 rfl (⟨⟨Nat.le_of_ble_eq_true rfl, Nat.le_of_ble_eq_true rfl, Nat.le_of_ble_eq_true rfl, cal_35⟩, rfl, gw_724, gw_725, gw_726, _, rfl, rfl⟩) <| 
  mA0 rfl <| 
  mA1 rfl (⟨_, rfl, Nat.le_of_ble_eq_true rfl, gw_206, rfl⟩) <| 
  mA0 rfl <| 
  mA1 rfl (⟨⟨Nat.le_of_ble_eq_true rfl, Nat.le_of_ble_eq_true rfl, Nat.le_of_ble_eq_true rfl, cal_43⟩, rfl, gw_1202, gw_1203, gw_1204, _, rfl, rfl⟩) <| 
  mA1 rfl (Or.inl ⟨rfl, rfl⟩) <| trivial

theorem mc_2 : mAllP 2 mt_2 :=
  mA0 rfl <| 
  mA1 rfl (⟨_, rfl, Nat.le_of_ble_eq_true rfl, gw_207, rfl⟩) <| 
  mA0 rfl <| 
  mA0 rfl <| 
  mA1 rfl (⟨⟨Nat.le_of_ble_eq_true rfl, Nat.le_of_ble_eq_true rfl, Nat.le_of_ble_eq_true rfl, cal_35⟩, rfl, gw_724, gw_725, gw_726, _, rfl, rfl⟩) <| 
  mA0 rfl <| 
  mA1 rfl (⟨⟨Nat.le_of_ble_eq_true rfl, Nat.le_of_ble_eq_true rfl, Nat.le_of_ble_eq_true rfl, cal_100⟩, rfl, gw_791, gw_88, gw_89, _, rfl, rfl⟩) <| 
  mA0 rfl <| 
  mA0 rfl <| 
  mA0 rfl <| 
  mA0 rfl <| 
  mA0 rfl <| 
  mA0 rfl <| 
  mA0 rfl <| 
  mA0 rfl <| 
  mA0 rfl <| 
  mA1 rfl (⟨_, rfl, Nat.le_of_ble_eq_true rfl, gw_207, rfl⟩) <| 
  mA0 rfl <| 
  mA0 rfl <| 
  mA0 rfl <| 
  mA1 rfl (⟨_, rfl, Nat.le_of_ble_eq_true rfl, gw_208, rfl⟩) <| 
  mA1 rfl (⟨⟨Nat.le_of_ble_eq_true rfl, Nat.le_of_ble_eq_true rfl, Nat.le_of_ble_eq_true rfl, cal_45⟩, rfl, gw_792, gw_793, gw_794, _, rfl, rfl⟩) <| 
  mA0 rfl <| 
  mA0 rfl <| 
  mA0 rfl <| 
  mA0 rfl <| 
  mA0 rfl <| 
  mA0 rfl <| 
  mA0 rfl <| 
  mA1 rfl (⟨_, rfl, Nat.le_of_ble_eq_true rfl, gw_208, rfl⟩) <| 
  mA0 rfl <| 
  mA1 rfl (⟨⟨Nat.le_of_ble_eq_true rfl, Nat.le_of_ble_eq_true rfl, Nat.le_of_ble_eq_true rfl, cal_5⟩, gw_805, Or.inl gw_804⟩) <| 
  mA0 rfl <| 
  mA0 rfl <| 
  mA1 rfl (⟨_, rfl, Nat.le_of_ble_eq_true rfl, gw_208, rfl⟩) <| 
  mA0 rfl <| 
  mA1 rfl (⟨⟨Nat.le_of_ble_eq_true rfl, Nat.le_of_ble_eq_true rfl, Nat.le_of_ble_eq_true rfl, cal_4⟩, gw_814, Or.inl gw_813⟩) <| 
  mA0 rfl <| 
  mA0 rfl <| 
  mA1 rfl (⟨⟨Nat.le_of_ble_eq_true rfl, Nat.le_of_ble_eq_true rfl, Nat.le_of_ble_eq_true rfl, cal_97⟩, rfl, gw_812, gw_80, gw_81, _, rfl, rfl⟩) <| 
  mA0 rfl <| 
  mA0 rfl <| 
  mA1 rfl (rfl) <| trivial

theorem mc_3 : mAllP 3 mt_3 :=
  mA0 rfl <| 
  mA0 rfl <| 
  mA1 rfl (⟨⟨Nat.le_of_ble_eq_true rfl, Nat.le_of_ble_eq_true rfl, Nat.le_of_ble_eq_true rfl, cal_95⟩, rfl, gw_808, gw_96, gw_97, _, rfl, rfl⟩) <| 
  mA0 rfl <| 
  mA0 rfl <| 
  mA1 rfl (Or.inl ⟨rfl, rfl⟩) <| trivial

theorem mc_4 : mAllP 4 mt_4 :=
  mA0 rfl <| 
  mA0 rfl <| 
  mA0 rfl <| 
  mA0 rfl <| 
  mA1 rfl (⟨⟨Nat.le_of_ble_eq_true rfl, Nat.le_of_ble_eq_true rfl, Nat.le_of_ble_eq_true rfl, cal_93⟩, rfl, gw_807, gw_92, gw_93, _, rfl, rfl⟩) <| 
  mA0 rfl <| 
  mA0 rfl <| 
  mA0 rfl <| 
  mA0 rfl <| 
  mA1 rfl (⟨⟨Nat.le_of_ble_eq_true rfl, Nat.le_of_ble_eq_true rfl, Nat.le_of_ble_eq_true rfl, cal_95⟩, rfl, gw_808, gw_96, gw_97, _, rfl, rfl⟩) <| 
  mA0 rfl <| 
  mA0 rfl <| 
  mA1 rfl (⟨⟨Nat.le_of_ble_eq_true rfl, Nat.le_of_ble_eq_true rfl, Nat.le_of_ble_eq_true rfl, cal_97⟩, rfl, gw_812, gw_80, gw_81, _, rfl, rfl⟩) <| 
  mA0 rfl <| 
  mA0 rfl <| 
  mA1 rfl (rfl) <| trivial

theorem mc_5 : mAllP 5 mt_5 :=
  mA0 rfl <| 
  mA0 rfl <| 
  mA0 rfl <| 
  mA0 rfl <| 
  mA0 rfl <| 
  mA0 rfl <| 
  mA1 rfl (⟨⟨Nat.le_of_ble_eq_true rfl, Nat.le_of_ble_eq_true rfl, Nat.le_of_ble_eq_true rfl, cal_93⟩, rfl, gw_807, gw_92, gw_93, _, rfl, rfl⟩) <| 
  mA0 rfl <| 
  mA0 rfl <| 
  mA0 rfl <| 
  mA1 rfl (⟨⟨Nat.le_of_ble_eq_true rfl, Nat.le_of_ble_eq_true rfl, Nat.le_of_ble_eq_true rfl, cal_95⟩, rfl, gw_808, gw_96, gw_97, _, rfl, rfl⟩) <| 
  mA0 rfl <| 
  mA0 rfl <| 
  mA0 rfl <| 
  mA0 rfl <| 
  mA0 rfl <| 
  mA0 rfl <| 
  mA0 rfl <| 
  mA1 rfl (⟨⟨Nat.le_of_ble_eq_true rfl, Nat.le_of_ble_eq_true rfl, Nat.le_of_ble_eq_true rfl, cal_6⟩, gw_810, Or.inl gw_809⟩) <| 
  mA0 rfl <| 
  mA0 rfl <| 
  mA0 rfl <| 
  mA0 rfl <| 
  mA0 rfl <| 
  mA0 rfl <| 
  mA1 rfl (⟨⟨Nat.le_of_ble_eq_true rfl, Nat.le_of_ble_eq_true rfl, Nat.le_of_ble_eq_true rfl, cal_95⟩, rfl, gw_808, gw_96, gw_97, _, rfl, rfl⟩) <| 
  mA0 rfl <| 
  mA1 rfl (⟨⟨Nat.le_of_ble_eq_true rfl, Nat.le_of_ble_eq_true rfl, Nat.le_of_ble_eq_true rfl, cal_97⟩, rfl, gw_812, gw_80, gw_81, _, rfl, rfl⟩) <| 
  mA0 rfl <| 
  mA0 rfl <| 
  mA0 rfl <| 
  mA0 rfl <| 
  mA0 rfl <| 
  mA1 rfl (⟨⟨Nat.le_of_ble_eq_true rfl, Nat.le_of_ble_eq_true rfl, Nat.le_of_ble_eq_true rfl, cal_6⟩, gw_810, Or.inl gw_809⟩) <| 
  mA1 rfl (rfl) <| trivial

theorem mc_6 : mAllP 6 mt_6 :=
  mA0 rfl <| 
  mA0 rfl <| 
  mA0 rfl <| 
  mA0 rfl <| 
  mA0 rfl <| 
  mA0 rfl <| 
  mA0 rfl <| 
  mA1 rfl (⟨⟨Nat.le_of_ble_eq_true rfl, Nat.le_of_ble_eq_true rfl, Nat.le_of_ble_eq_true rfl, cal_97⟩, rfl, gw_812, gw_80, gw_81, _, rfl, rfl⟩) <| 
  mA0 rfl <| 
  mA0 rfl <| 
  mA0 rfl <| 
  mA0 rfl <| 
  mA0 rfl <| 
  mA0 rfl <| 
  mA0 rfl <| 
  mA0 rfl <| 
  mA0 rfl <| 
  mA0 rfl <| 
  mA0 rfl <| 
  mA0 rfl <| 
  mA0 rfl <| 
  mA0 rfl <| 
  mA1 rfl (⟨⟨Nat.le_of_ble_eq_true rfl, Nat.le_of_ble_eq_true rfl, Nat.le_of_ble_eq_true rfl, cal_97⟩, rfl, gw_812, gw_80, gw_81, _, rfl, rfl⟩) <| 
  mA1 rfl (rfl) <| trivial

theorem mc_7 : mAllP 7 mt_7 :=
  mA0 rfl <| 
  mA0 rfl <| 
  mA0 rfl <| 
  mA0 rfl <| 
  mA0 rfl <| 
  mA1 rfl (⟨_, rfl, Nat.le_of_ble_eq_true rfl, gw_210, rfl⟩) <| 
  mA1 rfl (⟨⟨Nat.le_of_ble_eq_true rfl, Nat.le_of_ble_eq_true rfl, Nat.le_of_ble_eq_true rfl, cal_2⟩, rfl, gw_1221, gw_721, gw_722, _, rfl, rfl⟩) <| 
  mA0 rfl <| 
  mA1 rfl (⟨_, rfl, Nat.le_of_ble_eq_true rfl, gw_210, rfl⟩) <| 
  mA0 rfl <| 
  mA1 rfl (⟨⟨Nat.le_of_ble_eq_true rfl, Nat.le_of_ble_eq_true rfl, Nat.le_of_ble_eq_true rfl, cal_95⟩, rfl, gw_808, gw_96, gw_97, _, rfl, rfl⟩) <| 
  mA1 rfl (Or.inl ⟨rfl, rfl⟩) <| trivial

theorem mc_8 : mAllP 8 mt_8 :=
  mA0 rfl <| 
  mA0 rfl <| 
  mA0 rfl <| 
  mA0 rfl <| 
  mA0 rfl <| 
  mA1 rfl (⟨_, rfl, Nat.le_of_ble_eq_true rfl, gw_210, rfl⟩) <| 
  mA1 rfl (⟨⟨Nat.le_of_ble_eq_true rfl, Nat.le_of_ble_eq_true rfl, Nat.le_of_ble_eq_true rfl, cal_2⟩, rfl, gw_1221, gw_721, gw_722, _, rfl, rfl⟩) <| 
  mA0 rfl <| 
  mA0 rfl <| 
  mA0 rfl <| 
  mA0 rfl <| 
  mA0 rfl <| 
  mA1 rfl (⟨_, rfl, Nat.le_of_ble_eq_true rfl, gw_211, rfl⟩) <| 
  mA1 rfl (⟨⟨Nat.le_of_ble_eq_true rfl, Nat.le_of_ble_eq_true rfl, Nat.le_of_ble_eq_true rfl, cal_2⟩, rfl, gw_1221, gw_721, gw_722, _, rfl, rfl⟩) <| 
  mA0 rfl <| 
  mA1 rfl (⟨_, rfl, Nat.le_of_ble_eq_true rfl, gw_210, rfl⟩) <| 
  mA0 rfl <| 
  mA1 rfl (⟨_, rfl, Nat.le_of_ble_eq_true rfl, gw_211, rfl⟩) <| 
  mA1 rfl (⟨⟨Nat.le_of_ble_eq_true rfl, Nat.le_of_ble_eq_true rfl, Nat.le_of_ble_eq_true rfl, cal_192⟩, gw_837, Or.inr ⟨rfl, (fun E => ⟨(100000, 0), rfl, mNone _⟩), _, List.mem_of_getElem? (i := 20) rfl⟩⟩) <| 
  mA1 rfl (Or.inl ⟨rfl, rfl⟩) <| trivial

theorem mc_9 : mAllP 9 mt_9 :=
  mA0 rfl <| 
  mA1 rfl (⟨_, rfl, Nat.le_of_ble_eq_true rfl, gw_206, rfl⟩) <| 
  mA0 rfl <| 
  mA0 rfl <| 
  mA1 rfl (⟨⟨Nat.le_of_ble_eq_true rfl, Nat.le_of_ble_eq_true rfl, Nat.le_of_ble_eq_true rfl, cal_35⟩, rfl, gw_724, gw_725, gw_726, _, rfl, rfl⟩) <| 
  mA0 rfl <| 
  mA1 rfl (⟨_, rfl, Nat.le_of_ble_eq_true rfl, gw_207, rfl⟩) <| 
  mA0 rfl <| 
  mA0 rfl <| 
  mA1 rfl (⟨⟨Nat.le_of_ble_eq_true rfl, Nat.le_of_ble_eq_true rfl, Nat.le_of_ble_eq_true rfl, cal_35⟩, rfl, gw_724, gw_725, gw_726, _, rfl, rfl⟩) <| 
  mA0 rfl <| 
  mA0 rfl <| 
  mA0 rfl <| 
  mA0 rfl <| 
  mA0 rfl <| 
  mA0 rfl <| 
  mA0 rfl <| 
  mA0 rfl <| 
  mA0 rfl <| 
  mA0 rfl <| 
  mA1 rfl (⟨_, rfl, Nat.le_of_ble_eq_true rfl, gw_206, rfl⟩) <| 
  mA0 rfl <| 
  mA0 rfl <| 
  mA0 rfl <| 
  mA1 rfl (⟨_, rfl, Nat.le_of_ble_eq_true rfl, gw_208, rfl⟩) <| 
  mA1 rfl (⟨⟨Nat.le_of_ble_eq_true rfl, Nat.le_of_ble_eq_true rfl, Nat.le_of_ble_eq_true rfl, cal_45⟩, rfl, gw_792, gw_793, gw_794, _, rfl, rfl⟩) <| 
  mA0 rfl <| 
  mA1 rfl (⟨_, rfl, Nat.le_of_ble_eq_true rfl, gw_207, rfl⟩) <| 
  mA0 rfl <| 
  mA0 rfl <| 
  mA0 rfl <| 
  mA1 rfl (⟨_, rfl, Nat.le_of_ble_eq_true rfl, gw_209, rfl⟩) <| 
  mA1 rfl (⟨⟨Nat.le_of_ble_eq_true rfl, Nat.le_of_ble_eq_true rfl, Nat.le_of_ble_eq_true rfl, cal_45⟩, rfl, gw_792, gw_793, gw_794, _, rfl, rfl⟩) <| 
  mA0 rfl <| 
  mA1 rfl (⟨_, rfl, Nat.le_of_ble_eq_true rfl, gw_208, rfl⟩) <| 
  mA0 rfl <| 
  mA1 rfl (⟨_, rfl, Nat.le_of_ble_eq_true rfl, gw_209, rfl⟩) <| 
  mA1 rfl (⟨⟨Nat.le_of_ble_eq_true rfl, Nat.le_of_ble_eq_true rfl, Nat.le_of_ble_eq_true rfl, cal_192⟩, gw_837, Or.inr ⟨rfl, (fun E => ⟨(100000, 0), rfl, mNone _⟩), _, List.mem_of_getElem? (i := 20) rfl⟩⟩) <| 
  mA0 rfl <| 
  mA0 rfl <| 
  mA0 rfl <| 
  mA0 rfl <| 
  mA1 rfl (Or.inl ⟨rfl, rfl⟩) <| trivial

theorem mc_10 : mAllP 10 mt_10 :=
  mA0 rfl <| 
  mA1 rfl (⟨_, rfl, Nat.le_of_ble_eq_true rfl, gw_206, rfl⟩) <| 
  mA0 rfl <| 
  mA0 rfl <| 
  mA1 rfl (⟨⟨Nat.le_of_ble_eq_true rfl, Nat.le_of_ble_eq_true rfl, Nat.le_of_ble_eq_true rfl, cal_35⟩, rfl, gw_724, gw_725, gw_726, _, rfl, rfl⟩) <| 
  mA0 rfl <| 
  mA0 rfl <| 
  mA0 rfl <| 
  mA0 rfl <| 
  mA0 rfl <| 
  mA1 rfl (⟨_, rfl, Nat.le_of_ble_eq_true rfl, gw_211, rfl⟩) <| 
  mA1 rfl (⟨⟨Nat.le_of_ble_eq_true rfl, Nat.le_of_ble_eq_true rfl, Nat.le_of_ble_eq_true rfl, cal_2⟩, rfl, gw_1221, gw_721, gw_722, _, rfl, rfl⟩) <| 
  mA0 rfl <| 
  mA0 rfl <| 
  mA0 rfl <| 
  mA0 rfl <| 
  mA1 rfl (⟨⟨Nat.le_of_ble_eq_true rfl, Nat.le_of_ble_eq_true rfl, Nat.le_of_ble_eq_true rfl, cal_93⟩, rfl, gw_807, gw_92, gw_93, _, rfl, rfl⟩) <| 
  mA0 rfl <| 
  mA0 rfl <| 
  mA0 rfl <| 
  mA0 rfl <| 
  mA0 rfl <| 
  mA0 rfl <| 
  mA0 rfl <| 
  mA1 rfl (⟨⟨Nat.le_of_ble_eq_true rfl, Nat.le_of_ble_eq_true rfl, Nat.le_of_ble_eq_true rfl, cal_93⟩, rfl, gw_807, gw_92, gw_93, _, rfl, rfl⟩) <| 
  mA0 rfl <| 
  mA0 rfl <| 
  mA0 rfl <| 
  mA0 rfl <| 
  mA1 rfl (⟨⟨Nat.le_of_ble_eq_true rfl, Nat.le_of_ble_eq_true rfl, Nat.le_of_ble_eq_true rfl, cal_11⟩, rfl, gw_1258, gw_1260, gs_11, _, rfl, rfl⟩) <| 
  mA0 rfl <| 
  mA0 rfl <| 
  mA0 rfl <| 
  mA0 rfl <| 
  mA1 rfl (⟨⟨Nat.le_of_ble_eq_true rfl, Nat.le_of_ble_eq_true rfl, Nat.le_of_ble_eq_true rfl, cal_11⟩, rfl, gw_1258, gw_1260, gs_11, _, rfl, rfl⟩) <| 
  mA0 rfl <| 
  mA0 rfl <| 
  mA0 rfl <| 
  mA1 rfl (⟨_, rfl, Nat.le_of_ble_eq_true rfl, gw_212, rfl⟩) <| 
  mA1 rfl (⟨⟨Nat.le_of_ble_eq_true rfl, Nat.le_of_ble_eq_true rfl, Nat.le_of_ble_eq_true rfl, cal_100⟩, rfl, gw_791, gw_88, gw_89, _, rfl, rfl⟩) <| 
  mA0 rfl <| 
  mA1 rfl (⟨_, rfl, Nat.le_of_ble_eq_true rfl, gw_212, rfl⟩) <| 
  mA0 rfl <| 
  mA0 rfl <| 
  mA0 rfl <| 
  mA1 rfl (⟨⟨Nat.le_of_ble_eq_true rfl, Nat.le_of_ble_eq_true rfl, Nat.le_of_ble_eq_true rfl, cal_101⟩, rfl, gw_1267, gw_702, gw_703, _, rfl, rfl⟩) <| 
  mA0 rfl <| 
  mA0 rfl <| 
  mA0 rfl <| 
  mA0 rfl <| 
  mA1 rfl (⟨_, rfl, Nat.le_of_ble_eq_true rfl, gw_212, rfl⟩) <| 
  mA0 rfl <| 
  mA1 rfl (⟨_, rfl, Nat.le_of_ble_eq_true rfl, gw_210, rfl⟩) <| 
  mA1 rfl (⟨⟨Nat.le_of_ble_eq_true rfl, Nat.le_of_ble_eq_true rfl, Nat.le_of_ble_eq_true rfl, cal_2⟩, rfl, gw_1221, gw_721, gw_722, _, rfl, rfl⟩) <| 
  mA0 rfl <| 
  mA1 rfl (⟨_, rfl, Nat.le_of_ble_eq_true rfl, gw_210, rfl⟩) <| 
  mA0 rfl <| 
  mA1 rfl (⟨_, rfl, Nat.le_of_ble_eq_true rfl, gw_211, rfl⟩) <| 
  mA1 rfl (⟨⟨Nat.le_of_ble_eq_true rfl, Nat.le_of_ble_eq_true rfl, Nat.le_of_ble_eq_true rfl, cal_192⟩, gw_837, Or.inr ⟨rfl, (fun E => ⟨(100000, 0), rfl, mNone _⟩), _, List.mem_of_getElem? (i := 20) rfl⟩⟩) <| 
  mA0 rfl <| 
  mA0 rfl <| 
  mA0 rfl <| 
  mA0 rfl <| 
  mA0 rfl <| 
  mA0 rfl <| 
  mA1 rfl (Or.inl ⟨rfl, rfl⟩) <| 
  mA0 rfl <| 
  mA0 rfl <| 
  mA0 rfl <| 
  mA0 rfl <| 
  mA0 rfl <| 
  mA1 rfl (Or.inl ⟨rfl, rfl⟩) <| trivial

theorem mc_11 : mAllP 11 mt_11 :=
  mA0 rfl <| 
  mA0 rfl <| 
  mA1 rfl (⟨⟨Nat.le_of_ble_eq_true rfl, Nat.le_of_ble_eq_true rfl, Nat.le_of_ble_eq_true rfl, cal_95⟩, rfl, gw_808, gw_96, gw_97, _, rfl, rfl⟩) <| 
  mA1 rfl (⟨⟨Nat.le_of_ble_eq_true rfl, Nat.le_of_ble_eq_true rfl, Nat.le_of_ble_eq_true rfl, cal_179⟩, gw_537, Or.inr ⟨rfl, (fun E => ⟨(100000, 0), rfl, mNone _⟩), _, List.mem_of_getElem? (i := 21) rfl⟩⟩) <| 
  mA0 rfl <| 
  mA0 rfl <| 
  mA1 rfl (⟨_, rfl, Nat.le_of_ble_eq_true rfl, gw_206, rfl⟩) <| 
  mA0 rfl <| 
  mA1 rfl (⟨⟨Nat.le_of_ble_eq_true rfl, Nat.le_of_ble_eq_true rfl, Nat.le_of_ble_eq_true rfl, cal_44⟩, rfl, gw_1263, gw_1264, gw_1265, _, rfl, rfl⟩) <| 
  mA0 rfl <| 
  mA0 rfl <| 
  mA0 rfl <| 
  mA0 rfl <| 
  mA1 rfl (Or.inr ⟨by decide, rfl⟩) <| trivial

theorem mc_12 : mAllP 12 mt_12 :=
  mA0 rfl <| 
  mA1 rfl (⟨gw_34, gw_27, gw_28, Nat.le_of_ble_eq_true rfl, Nat.le_of_ble_eq_true rfl⟩) <| 
  mA0 rfl <| 
  mA0 rfl <| 
  mA1 rfl (gw_45) <| 
  mA1 rfl (⟨_, rfl, Nat.le_of_ble_eq_true rfl, gw_35, rfl, Or.inr ⟨rfl, ini_12, rfl⟩⟩) <| 
  mA0 rfl <| 
  mA0 rfl <| 
  mA1 rfl (gw_45) <| 
  mA1 rfl (⟨_, rfl, Nat.le_of_ble_eq_true rfl, gw_36, rfl, Or.inr ⟨rfl, ini_12, rfl⟩⟩) <| 
  mA0 rfl <| 
  mA0 rfl <| 
  mA0 rfl <| 
  mA0 rfl <| 
  mA0 rfl <| 
  mA0 rfl <| 
  mA1 rfl (⟨_, rfl, Nat.le_of_ble_eq_true rfl, gw_35, rfl⟩) <| 
  mA0 rfl <| 
  mA0 rfl <| 
  mA0 rfl <| 
  mA0 rfl <| 
  mA1 rfl (⟨_, rfl, Nat.le_of_ble_eq_true rfl, gw_36, rfl⟩) <| 
  mA0 rfl <| 
  mA0 rfl <| 
  mA0 rfl <| 
  mA0 rfl <| 
  mA0 rfl <| 
  mA1 rfl (rfl) <| trivial

theorem mc_13 : mAllP 13 mt_13 :=
  mA0 rfl <| 
  mA1 rfl (⟨_, rfl, Nat.le_of_ble_eq_true rfl, gw_37, rfl⟩) <| 
  mA1 rfl (Or.inl ⟨rfl, rfl⟩) <| trivial

theorem mc_14 : mAllP 14 mt_14 :=
  mA0 rfl <| 
  mA0 rfl <| 
  mA1 rfl (⟨⟨Nat.le_of_ble_eq_true rfl, Nat.le_of_ble_eq_true rfl, Nat.le_of_ble_eq_true rfl, cal_15⟩, rfl, gw_433, gw_435, gs_15, _, rfl, rfl⟩) <| 
  mA0 rfl <| 
  mA0 rfl <| 
  mA0 rfl <| 
  mA0 rfl <| 
  mA0 rfl <| 
  mA1 rfl (Or.inr ⟨by decide, rfl⟩) <| trivial

theorem mc_15 : mAllP 15 mt_15 :=
  mA0 rfl <| 
  mA0 rfl <| 
  mA0 rfl <| 
  mA0 rfl <| 
  mA0 rfl <| 
  mA0 rfl <| 
  mA1 rfl (⟨_, rfl, Nat.le_of_ble_eq_true rfl, gw_35, rfl⟩) <| 
  mA0 rfl <| 
  mA0 rfl <| 
  mA0 rfl <| 
  mA0 rfl <| 
  mA1 rfl (Or.inl ⟨rfl, rfl⟩) <| trivial

theorem mc_16 : mAllP 16 mt_16 :=
  mA0 rfl <| 
  mA0 rfl <| 
  mA0 rfl <| 
  mA0 rfl <| 
  mA0 rfl <| 
  mA0 rfl <| 
  mA1 rfl (⟨_, rfl, Nat.le_of_ble_eq_true rfl, gw_36, rfl⟩) <| 
  mA0 rfl <| 
  mA0 rfl <| 
  mA0 rfl <| 
  mA0 rfl <| 
  mA1 rfl (Or.inl ⟨rfl, rfl⟩) <| trivial

theorem mc_17 : mAllP 17 mt_17 :=
  mA0 rfl <| 
  mA1 rfl (⟨⟨Nat.le_of_ble_eq_true rfl, Nat.le_of_ble_eq_true rfl, Nat.le_of_ble_eq_true rfl, cal_178⟩, gw_534, Or.inr ⟨rfl, (fun E => ⟨(100000, 0), rfl, mNone _⟩), _, List.mem_of_getElem? (i := 7) rfl⟩⟩) <| 
  mA0 rfl <| 
  mA0 rfl <| 
  mA0 rfl <| 
  mA1 rfl (⟨⟨Nat.le_of_ble_eq_true rfl, Nat.le_of_ble_eq_true rfl, Nat.le_of_ble_eq_true rfl, cal_15⟩, rfl, gw_433, gw_435, gs_15, _, rfl, rfl⟩) <| 
  mA1 rfl (⟨⟨Nat.le_of_ble_eq_true rfl, Nat.le_of_ble_eq_true rfl, Nat.le_of_ble_eq_true rfl, cal_178⟩, gw_534, Or.inr ⟨rfl, (fun E => ⟨(100000, 0), rfl, mNone _⟩), _, List.mem_of_getElem? (i := 7) rfl⟩⟩) <| 
  mA0 rfl <| 
  mA0 rfl <| 
  mA0 rfl <| 
  mA0 rfl <| 
  mA1 rfl (Or.inr ⟨by decide, rfl⟩) <| trivial

theorem mc_18 : mAllP 18 mt_18 :=
  mA0 rfl <| 
  mA0 rfl <| 
  mA0 rfl <| 
  mA0 rfl <| 
  mA0 rfl <| 
  mA0 rfl <| 
  mA1 rfl (⟨_, rfl, Nat.le_of_ble_eq_true rfl, gw_35, rfl⟩) <| 
  mA0 rfl <| 
  mA0 rfl <| 
  mA0 rfl <| 
  mA0 rfl <| 
  mA1 rfl (⟨_, rfl, Nat.le_of_ble_eq_true rfl, gw_36, rfl⟩) <| 
  mA0 rfl <| 
  mA0 rfl <| 
  mA0 rfl <| 
  mA0 rfl <| 
  mA0 rfl <| 
  mA1 rfl (⟨_, rfl, Nat.le_of_ble_eq_true rfl, gw_37, rfl⟩) <| 
  mA0 rfl <| 
  mA0 rfl <| 
  mA1 rfl (⟨_, rfl, Nat.le_of_ble_eq_true rfl, gw_37, rfl, Or.inl rfl⟩) <| 
  mA1 rfl (rfl) <| trivial

theorem mc_19 : mAllP 19 mt_19 :=
  mA0 rfl <| 
  mA0 rfl <| 
  mA0 rfl <| 
  mA0 rfl <| 
  mA0 rfl <| 
  mA0 rfl <| 
  mA1 rfl (⟨_, rfl, Nat.le_of_ble_eq_true rfl, gw_35, rfl⟩) <| 
  mA0 rfl <| 
  mA0 rfl <| 
  mA0 rfl <| 
  mA0 rfl <| 
  mA0 rfl <| 
  mA1 rfl (⟨_, rfl, Nat.le_of_ble_eq_true rfl, gw_36, rfl⟩) <| 
  mA0 rfl <| 
  mA0 rfl <| 
  mA0 rfl <| 
  mA0 rfl <| 
  mA0 rfl <| 
  mA1 rfl (Or.inl ⟨rfl, rfl⟩) <| 
  mA0 rfl <| 
  mA0 rfl <| 
  mA0 rfl <| 
  mA1 rfl (Or.inl ⟨rfl, rfl⟩) <| trivial

theorem mc_20 : mAllP 20 mt_20 :=
  mA0 rfl <| 
  mA1 rfl (⟨⟨Nat.le_of_ble_eq_true rfl, Nat.le_of_ble_eq_true rfl, Nat.le_of_ble_eq_true rfl, cal_100⟩, rfl, gw_569, gw_88, gw_89, _, rfl, rfl⟩) <| 
  mA0 rfl <| 
  mA0 rfl <| 
  mA0 rfl <| 
  mA0 rfl <| 
  mA1 rfl (⟨⟨Nat.le_of_ble_eq_true rfl, Nat.le_of_ble_eq_true rfl, Nat.le_of_ble_eq_true rfl, cal_93⟩, rfl, gw_570, gw_92, gw_93, _, rfl, rfl⟩) <| 
  mA0 rfl <| 
  mA0 rfl <| 
  mA0 rfl <| 
  mA0 rfl <| 
  mA1 rfl (⟨⟨Nat.le_of_ble_eq_true rfl, Nat.le_of_ble_eq_true rfl, Nat.le_of_ble_eq_true rfl, cal_95⟩, rfl, gw_571, gw_96, gw_97, _, rfl, rfl⟩) <| 
  mA0 rfl <| 
  mA1 rfl (⟨⟨Nat.le_of_ble_eq_true rfl, Nat.le_of_ble_eq_true rfl, Nat.le_of_ble_eq_true rfl, cal_21⟩, rfl, gw_572, gw_574, gs_21, _, rfl, rfl⟩) <| 
  mA0 rfl <| 
  mA0 rfl <| 
  mA0 rfl <| 
  mA0 rfl <| 
  mA0 rfl <| 
  mA0 rfl <| 
  mA1 rfl (⟨⟨Nat.le_of_ble_eq_true rfl, Nat.le_of_ble_eq_true rfl, Nat.le_of_ble_eq_true rfl, cal_93⟩, rfl, gw_570, gw_92, gw_93, _, rfl, rfl⟩) <| 
  mA0 rfl <| 
  mA0 rfl <| 
  mA0 rfl <| 
  mA1 rfl (⟨⟨Nat.le_of_ble_eq_true rfl, Nat.le_of_ble_eq_true rfl, Nat.le_of_ble_eq_true rfl, cal_22⟩, gw_583, Or.inl gw_582⟩) <| 
  mA0 rfl <| 
  mA0 rfl <| 
  mA1 rfl (rfl) <| trivial

theorem mc_21 : mAllP 21 mt_21 :=
  mA0 rfl <| 
  mA0 rfl <| 
  mA1 rfl (⟨⟨Nat.le_of_ble_eq_true rfl, Nat.le_of_ble_eq_true rfl, Nat.le_of_ble_eq_true rfl, cal_14⟩, rfl, gw_576, gw_430, gw_431, _, rfl, rfl⟩) <| 
  mA0 rfl <| 
  mA0 rfl <| 
  mA0 rfl <| 
  mA1 rfl (⟨⟨Nat.le_of_ble_eq_true rfl, Nat.le_of_ble_eq_true rfl, Nat.le_of_ble_eq_true rfl, cal_15⟩, rfl, gw_433, gw_435, gs_15, _, rfl, rfl⟩) <| 
  mA0 rfl <| 
  mA0 rfl <| 
  mA0 rfl <| 
  mA0 rfl <| 
  mA0 rfl <| 
  mA0 rfl <| 
  mA1 rfl (⟨⟨Nat.le_of_ble_eq_true rfl, Nat.le_of_ble_eq_true rfl, Nat.le_of_ble_eq_true rfl, cal_14⟩, rfl, gw_576, gw_430, gw_431, _, rfl, rfl⟩) <| 
  mA0 rfl <| 
  mA0 rfl <| 
  mA0 rfl <| 
  mA1 rfl (⟨⟨Nat.le_of_ble_eq_true rfl, Nat.le_of_ble_eq_true rfl, Nat.le_of_ble_eq_true rfl, cal_15⟩, rfl, gw_433, gw_435, gs_15, _, rfl, rfl⟩) <| 
  mA0 rfl <| 
  mA0 rfl <| 
  mA1 rfl (⟨⟨Nat.le_of_ble_eq_true rfl, Nat.le_of_ble_eq_true rfl, Nat.le_of_ble_eq_true rfl, cal_97⟩, rfl, gw_577, gw_80, gw_81, _, rfl, rfl⟩) <| 
  mA0 rfl <| 
  mA0 rfl <| 
  mA1 rfl (⟨⟨Nat.le_of_ble_eq_true rfl, Nat.le_of_ble_eq_true rfl, Nat.le_of_ble_eq_true rfl, cal_14⟩, rfl, gw_576, gw_430, gw_431, _, rfl, rfl⟩) <| 
  mA0 rfl <| 
  mA0 rfl <| 
  mA0 rfl <| 
  mA0 rfl <| 
  mA1 rfl (⟨⟨Nat.le_of_ble_eq_true rfl, Nat.le_of_ble_eq_true rfl, Nat.le_of_ble_eq_true rfl, cal_16⟩, rfl, gw_578, gw_580, gs_16, _, rfl, rfl⟩) <| 
  mA1 rfl (⟨⟨Nat.le_of_ble_eq_true rfl, Nat.le_of_ble_eq_true rfl, Nat.le_of_ble_eq_true rfl, cal_97⟩, rfl, gw_577, gw_80, gw_81, _, rfl, rfl⟩) <| 
  mA0 rfl <| 
  mA0 rfl <| 
  mA1 rfl (⟨⟨Nat.le_of_ble_eq_true rfl, Nat.le_of_ble_eq_true rfl, Nat.le_of_ble_eq_true rfl, cal_14⟩, rfl, gw_576, gw_430, gw_431, _, rfl, rfl⟩) <| 
  mA0 rfl <| 
  mA0 rfl <| 
  mA0 rfl <| 
  mA0 rfl <| 
  mA1 rfl (⟨⟨Nat.le_of_ble_eq_true rfl, Nat.le_of_ble_eq_true rfl, Nat.le_of_ble_eq_true rfl, cal_16⟩, rfl, gw_578, gw_580, gs_16, _, rfl, rfl⟩) <| 
  mA1 rfl (⟨⟨Nat.le_of_ble_eq_true rfl, Nat.le_of_ble_eq_true rfl, Nat.le_of_ble_eq_true rfl, cal_97⟩, rfl, gw_577, gw_80, gw_81, _, rfl, rfl⟩) <| 
  mA1 rfl (rfl) <| trivial

theorem mc_22 : mAllP 22 mt_22 :=
  mA0 rfl <| 
  mA0 rfl <| 
  mA1 rfl (⟨⟨Nat.le_of_ble_eq_true rfl, Nat.le_of_ble_eq_true rfl, Nat.le_of_ble_eq_true rfl, cal_95⟩, rfl, gw_571, gw_96, gw_97, _, rfl, rfl⟩) <| 
  mA0 rfl <| 
  mA0 rfl <| 
  mA0 rfl <| 
  mA0 rfl <| 
  mA0 rfl <| 
  mA0 rfl <| 
  mA1 rfl (⟨⟨Nat.le_of_ble_eq_true rfl, Nat.le_of_ble_eq_true rfl, Nat.le_of_ble_eq_true rfl, cal_179⟩, gw_537, Or.inr ⟨rfl, (fun E => ⟨(100000, 0), rfl, mNone _⟩), _, List.mem_of_getElem? (i := 8) rfl⟩⟩) <| 
  mA0 rfl <| 
  mA0 rfl <| 
  mA0 rfl <| 
  mA0 rfl <| 
  mA0 rfl <| 
  mA1 rfl (⟨⟨Nat.le_of_ble_eq_true rfl, Nat.le_of_ble_eq_true rfl, Nat.le_of_ble_eq_true rfl, cal_95⟩, rfl, gw_571, gw_96, gw_97, _, rfl, rfl⟩) <| 
  mA1 rfl (⟨⟨Nat.le_of_ble_eq_true rfl, Nat.le_of_ble_eq_true rfl, Nat.le_of_ble_eq_true rfl, cal_182⟩, gw_587, Or.inr ⟨rfl, (fun E => ⟨(100000, 0), rfl, mNone _⟩), _, List.mem_of_getElem? (i := 9) rfl⟩⟩) <| 
  mA0 rfl <| 
  mA1 rfl (⟨⟨Nat.le_of_ble_eq_true rfl, Nat.le_of_ble_eq_true rfl, Nat.le_of_ble_eq_true rfl, cal_182⟩, gw_587, Or.inr ⟨rfl, (fun E => ⟨(100000, 0), rfl, mNone _⟩), _, List.mem_of_getElem? (i := 9) rfl⟩⟩) <| 
  mA0 rfl <| 
  mA0 rfl <| 
  mA0 rfl <| 
  mA0 rfl <| 
  mA0 rfl <| 
  mA0 rfl <| 
  mA0 rfl <| 
  mA1 rfl (⟨⟨Nat.le_of_ble_eq_true rfl, Nat.le_of_ble_eq_true rfl, Nat.le_of_ble_eq_true rfl, cal_95⟩, rfl, gw_571, gw_96, gw_97, _, rfl, rfl⟩) <| 
  mA1 rfl (⟨⟨Nat.le_of_ble_eq_true rfl, Nat.le_of_ble_eq_true rfl, Nat.le_of_ble_eq_true rfl, cal_96⟩, rfl, gw_591, gw_592, gw_593, _, rfl, rfl⟩) <| 
  mA0 rfl <| 
  mA0 rfl <| 
  mA0 rfl <| 
  mA0 rfl <| 
  mA0 rfl <| 
  mA1 rfl (⟨⟨Nat.le_of_ble_eq_true rfl, Nat.le_of_ble_eq_true rfl, Nat.le_of_ble_eq_true rfl, cal_96⟩, rfl, gw_591, gw_592, gw_593, _, rfl, rfl⟩) <| 
  mA1 rfl (rfl) <| trivial

theorem mc_23 : mAllP 23 mt_23 :=
  mA0 rfl <| 
  mA1 rfl (⟨⟨Nat.le_of_ble_eq_true rfl, Nat.le_of_ble_eq_true rfl, Nat.le_of_ble_eq_true rfl, cal_100⟩, rfl, gw_569, gw_88, gw_89, _, rfl, rfl⟩) <| 
  mA0 rfl <| 
  mA0 rfl <| 
  mA0 rfl <| 
  mA0 rfl <| 
  mA0 rfl <| 
  mA0 rfl <| 
  mA0 rfl <| 
  mA0 rfl <| 
  mA1 rfl (⟨⟨Nat.le_of_ble_eq_true rfl, Nat.le_of_ble_eq_true rfl, Nat.le_of_ble_eq_true rfl, cal_93⟩, rfl, gw_570, gw_92, gw_93, _, rfl, rfl⟩) <| 
  mA0 rfl <| 
  mA0 rfl <| 
  mA0 rfl <| 
  mA1 rfl (⟨⟨Nat.le_of_ble_eq_true rfl, Nat.le_of_ble_eq_true rfl, Nat.le_of_ble_eq_true rfl, cal_95⟩, rfl, gw_571, gw_96, gw_97, _, rfl, rfl⟩) <| 
  mA0 rfl <| 
  mA0 rfl <| 
  mA0 rfl <| 
  mA0 rfl <| 
  mA0 rfl <| 
  mA1 rfl (⟨⟨Nat.le_of_ble_eq_true rfl, Nat.le_of_ble_eq_true rfl, Nat.le_of_ble_eq_true rfl, cal_182⟩, gw_587, Or.inr ⟨rfl, (fun E => ⟨(100000, 0), rfl, mNone _⟩), _, List.mem_of_getElem? (i := 9) rfl⟩⟩) <| 
  mA0 rfl <| 
  mA0 rfl <| 
  mA0 rfl <| 
  mA0 rfl <| 
  mA0 rfl <| 
  mA0 rfl <| 
  mA0 rfl <| 
  mA1 rfl (⟨⟨Nat.le_of_ble_eq_true rfl, Nat.le_of_ble_eq_true rfl, Nat.le_of_ble_eq_true rfl, cal_179⟩, gw_537, Or.inr ⟨rfl, (fun E => ⟨(100000, 0), rfl, mNone _⟩), _, List.mem_of_getElem? (i := 8) rfl⟩⟩) <| 
  mA0 rfl <| 
  mA0 rfl <| 
  mA0 rfl <| 
  mA0 rfl <| 
  mA0 rfl <| 
  mA0 rfl <| 
  mA1 rfl (⟨⟨Nat.le_of_ble_eq_true rfl, Nat.le_of_ble_eq_true rfl, Nat.le_of_ble_eq_true rfl, cal_95⟩, rfl, gw_571, gw_96, gw_97, _, rfl, rfl⟩) <| 
  mA0 rfl <| 
  mA1 rfl (⟨⟨Nat.le_of_ble_eq_true rfl, Nat.le_of_ble_eq_true rfl, Nat.le_of_ble_eq_true rfl, cal_19⟩, rfl, gw_1164, gw_541, gw_542, _, rfl, rfl⟩) <| 
  mA0 rfl <| 
  mA0 rfl <| 
  mA0 rfl <| 
  mA0 rfl <| 
  mA0 rfl <| 
  mA0 rfl <| 
  mA0 rfl <| 
  mA0 rfl <| 
  mA0 rfl <| 
  mA1 rfl (⟨⟨Nat.le_of_ble_eq_true rfl, Nat.le_of_ble_eq_true rfl, Nat.le_of_ble_eq_true rfl, cal_96⟩, rfl, gw_591, gw_592, gw_593, _, rfl, rfl⟩) <| 
  mA0 rfl <| 
  mA0 rfl <| 
  mA0 rfl <| 
  mA1 rfl (⟨⟨Nat.le_of_ble_eq_true rfl, Nat.le_of_ble_eq_true rfl, Nat.le_of_ble_eq_true rfl, cal_97⟩, rfl, gw_577, gw_80, gw_81, _, rfl, rfl⟩) <| 
  mA0 rfl <| 
  mA1 rfl (⟨⟨Nat.le_of_ble_eq_true rfl, Nat.le_of_ble_eq_true rfl, Nat.le_of_ble_eq_true rfl, cal_179⟩, gw_537, Or.inr ⟨rfl, (fun E => ⟨(100000, 0), rfl, mNone _⟩), _, List.mem_of_getElem? (i := 8) rfl⟩⟩) <| 
  mA0 rfl <| 
  mA0 rfl <| 
  mA0 rfl <| 
  mA1 rfl (⟨⟨Nat.le_of_ble_eq_true rfl, Nat.le_of_ble_eq_true rfl, Nat.le_of_ble_eq_true rfl, cal_182⟩, gw_587, Or.inr ⟨rfl, (fun E => ⟨(100000, 0), rfl, mNone _⟩), _, List.mem_of_getElem? (i := 9) rfl⟩⟩) <| 
  mA1 rfl (⟨⟨Nat.le_of_ble_eq_true rfl, Nat.le_of_ble_eq_true rfl, Nat.le_of_ble_eq_true rfl, cal_329⟩, gw_53, Or.inl gw_1165⟩) <| 
  mA0 rfl <| 
  mA0 rfl <| 
  mA0 rfl <| 
  mA0 rfl <| 
  mA1 rfl (⟨⟨Nat.le_of_ble_eq_true rfl, Nat.le_of_ble_eq_true rfl, Nat.le_of_ble_eq_true rfl, cal_179⟩, gw_537, Or.inr ⟨rfl, (fun E => ⟨(100000, 0), rfl, mNone _⟩), _, List.mem_of_getElem? (i := 8) rfl⟩⟩) <| 
  mA0 rfl <| 
  mA0 rfl <| 
  mA1 rfl (⟨⟨Nat.le_of_ble_eq_true rfl, Nat.le_of_ble_eq_true rfl, Nat.le_of_ble_eq_true rfl, cal_178⟩, gw_534, Or.inr ⟨rfl, (fun E => ⟨(100000, 0), rfl, mNone _⟩), _, List.mem_of_getElem? (i := 7) rfl⟩⟩) <| 
  mA0 rfl <| 
  mA0 rfl <| 
  mA1 rfl (⟨⟨Nat.le_of_ble_eq_true rfl, Nat.le_of_ble_eq_true rfl, Nat.le_of_ble_eq_true rfl, cal_93⟩, rfl, gw_570, gw_92, gw_93, _, rfl, rfl⟩) <| 
  mA0 rfl <| 
  mA0 rfl <| 
  mA0 rfl <| 
  mA0 rfl <| 
  mA0 rfl <| 
  mA0 rfl <| 
  mA0 rfl <| 
  mA1 rfl (rfl) <| trivial

theorem mc_24 : mAllP 24 mt_24 :=
  mA0 rfl <| 
  mA1 rfl (⟨gw_143, gw_27, gw_28, Nat.le_of_ble_eq_true rfl, Nat.le_of_ble_eq_true rfl⟩) <| 
  mA0 rfl <| 
  mA1 rfl (⟨_, rfl, gw_144, gw_47, gw_3⟩) <| 
  mA0 rfl <| 
  mA0 rfl <| 
  mA1 rfl (⟨⟨Nat.le_of_ble_eq_true rfl, Nat.le_of_ble_eq_true rfl, Nat.le_of_ble_eq_true rfl, cal_92⟩, rfl, rfl, (fun E => ⟨(100000, 0), rfl, mNone _⟩), gw_49, rfl, Or.inl gw_145⟩) <| 
  mA1 rfl (⟨_, rfl, Nat.le_of_ble_eq_true rfl, gw_146, rfl, Or.inr ⟨rfl, ini_24, rfl⟩⟩) <| 
  mA0 rfl <| 
  mA1 rfl (⟨_, rfl, gw_144, gw_47, gw_3⟩) <| 
  mA0 rfl <| 
  mA0 rfl <| 
  mA1 rfl (⟨⟨Nat.le_of_ble_eq_true rfl, Nat.le_of_ble_eq_true rfl, Nat.le_of_ble_eq_true rfl, cal_92⟩, rfl, rfl, (fun E => ⟨(100000, 0), rfl, mNone _⟩), gw_49, rfl, Or.inl gw_145⟩) <| 
  mA1 rfl (⟨_, rfl, Nat.le_of_ble_eq_true rfl, gw_147, rfl, Or.inr ⟨rfl, ini_24, rfl⟩⟩) <| 
  mA0 rfl <| 
  mA0 rfl <| 
  mA1 rfl (⟨Nat.le_of_ble_eq_true rfl, Nat.le_of_ble_eq_true rfl, _, rfl, gw_144⟩) <| 
  mA1 rfl (⟨_, rfl, Nat.le_of_ble_eq_true rfl, gw_148, rfl, Or.inr ⟨rfl, ini_24, rfl⟩⟩) <| 
  mA0 rfl <| 
  mA0 rfl <| 
  mA0 rfl <| 
  mA0 rfl <| 
  mA0 rfl <| 
  mA0 rfl <| 
  mA1 rfl (⟨_, rfl, Nat.le_of_ble_eq_true rfl, gw_148, rfl⟩) <| 
  mA0 rfl <| 
  mA1 rfl (⟨_, rfl, gw_144, gw_47, gw_3⟩) <| 
  mA0 rfl <| 
  mA0 rfl <| 
  mA1 rfl (⟨⟨Nat.le_of_ble_eq_true rfl, Nat.le_of_ble_eq_true rfl, Nat.le_of_ble_eq_true rfl, cal_92⟩, rfl, rfl, (fun E => ⟨(100000, 0), rfl, mNone _⟩), gw_49, rfl, Or.inl gw_145⟩) <| 
  mA1 rfl (⟨Nat.le_of_ble_eq_true rfl, Nat.le_of_ble_eq_true rfl, _, rfl, rfl⟩) <| 
  mA0 rfl <| 
  mA0 rfl <| 
  mA1 rfl (rfl) <| trivial

theorem mc_25 : mAllP 25 mt_25 :=
  mA0 rfl <| 
  mA1 rfl (⟨_, rfl, Nat.le_of_ble_eq_true rfl, gw_146, rfl⟩) <| 
  mA1 rfl (⟨⟨Nat.le_of_ble_eq_true rfl, Nat.le_of_ble_eq_true rfl, Nat.le_of_ble_eq_true rfl, cal_93⟩, rfl, gw_1040, gw_92, gw_93, _, rfl, rfl⟩) <| 
  mA1 rfl (Or.inl ⟨rfl, rfl⟩) <| trivial

theorem mc_26 : mAllP 26 mt_26 :=
  mA0 rfl <| 
  mA0 rfl <| 
  mA0 rfl <| 
  mA0 rfl <| 
  mA1 rfl (⟨_, rfl, Nat.le_of_ble_eq_true rfl, gw_146, rfl⟩) <| 
  mA1 rfl (⟨⟨Nat.le_of_ble_eq_true rfl, Nat.le_of_ble_eq_true rfl, Nat.le_of_ble_eq_true rfl, cal_93⟩, rfl, gw_1040, gw_92, gw_93, _, rfl, rfl⟩) <| 
  mA0 rfl <| 
  mA0 rfl <| 
  mA0 rfl <| 
  mA0 rfl <| 
  mA1 rfl (Or.inr ⟨by decide, rfl⟩) <| trivial

theorem mc_27 : mAllP 27 mt_27 :=
  mA0 rfl <| 
  mA1 rfl (⟨_, rfl, Nat.le_of_ble_eq_true rfl, gw_146, rfl⟩) <| 
  mA0 rfl <| 
  mA1 rfl (⟨⟨Nat.le_of_ble_eq_true rfl, Nat.le_of_ble_eq_true rfl, Nat.le_of_ble_eq_true rfl, cal_97⟩, rfl, gw_1046, gw_80, gw_81, _, rfl, rfl⟩) <| 
  mA0 rfl <| 
  mA1 rfl (⟨_, rfl, Nat.le_of_ble_eq_true rfl, gw_147, rfl⟩) <| 
  mA0 rfl <| 
  mA1 rfl (⟨⟨Nat.le_of_ble_eq_true rfl, Nat.le_of_ble_eq_true rfl, Nat.le_of_ble_eq_true rfl, cal_97⟩, rfl, gw_1046, gw_80, gw_81, _, rfl, rfl⟩) <| 
  mA1 rfl (rfl) <| trivial

theorem mc_28 : mAllP 28 mt_28 :=
  mA0 rfl <| 
  mA1 rfl (⟨_, rfl, Nat.le_of_ble_eq_true rfl, gw_146, rfl⟩) <| 
  mA0 rfl <| 
  mA1 rfl (⟨⟨Nat.le_of_ble_eq_true rfl, Nat.le_of_ble_eq_true rfl, Nat.le_of_ble_eq_true rfl, cal_95⟩, rfl, gw_1076, gw_96, gw_97, _, rfl, rfl⟩) <| 
  mA1 rfl (Or.inl ⟨rfl, rfl⟩) <| trivial

theorem mc_29 : mAllP 29 mt_29 :=
  mA0 rfl <| 
  mA1 rfl (⟨_, rfl, Nat.le_of_ble_eq_true rfl, gw_147, rfl⟩) <| 
  mA0 rfl <| 
  mA1 rfl (⟨⟨Nat.le_of_ble_eq_true rfl, Nat.le_of_ble_eq_true rfl, Nat.le_of_ble_eq_true rfl, cal_95⟩, rfl, gw_1076, gw_96, gw_97, _, rfl, rfl⟩) <| 
  mA1 rfl (Or.inl ⟨rfl, rfl⟩) <| trivial

theorem mc_30 : mAllP 30 mt_30 :=
  mA0 rfl <| 
  mA1 rfl (⟨_, rfl, Nat.le_of_ble_eq_true rfl, gw_147, rfl⟩) <| 
  mA0 rfl <| 
  mA0 rfl <| 
  mA1 rfl (⟨⟨Nat.le_of_ble_eq_true rfl, Nat.le_of_ble_eq_true rfl, Nat.le_of_ble_eq_true rfl, cal_96⟩, rfl, gw_1086, gw_592, gw_593, _, rfl, rfl⟩) <| 
  mA1 rfl (rfl) <| trivial

theorem mc_31 : mAllP 31 mt_31 :=
  mA0 rfl <| 
  mA1 rfl (⟨_, rfl, Nat.le_of_ble_eq_true rfl, gw_148, rfl⟩) <| 
  mA0 rfl <| 
  mA0 rfl <| 
  mA0 rfl <| 
  mA0 rfl <| 
  mA0 rfl <| 
  mA0 rfl <| 
  mA0 rfl <| 
  mA0 rfl <| 
  mA1 rfl (⟨Nat.le_of_ble_eq_true rfl, Nat.le_of_ble_eq_true rfl⟩) <| 
  mA1 rfl (⟨_, rfl⟩) <| trivial

theorem mc_32 : mAllP 32 mt_32 :=
  mA0 rfl <| 
  mA0 rfl <| 
  mA1 rfl (⟨⟨Nat.le_of_ble_eq_true rfl, Nat.le_of_ble_eq_true rfl, Nat.le_of_ble_eq_true rfl, cal_29⟩, rfl, gw_1411, gw_1079, gw_1080, _, rfl, rfl⟩) <| 
  mA0 rfl <| 
  mA0 rfl <| 
  mA0 rfl <| 
  mA0 rfl <| 
  mA1 rfl (⟨⟨Nat.le_of_ble_eq_true rfl, Nat.le_of_ble_eq_true rfl, Nat.le_of_ble_eq_true rfl, cal_29⟩, rfl, gw_1411, gw_1079, gw_1080, _, rfl, rfl⟩) <| 
  mA0 rfl <| 
  mA0 rfl <| 
  mA0 rfl <| 
  mA0 rfl <| 
  mA0 rfl <| 
  mA1 rfl (Or.inr ⟨by decide, rfl⟩) <| 
  mA0 rfl <| 
  mA0 rfl <| 
  mA0 rfl <| 
  mA1 rfl (⟨⟨Nat.le_of_ble_eq_true rfl, Nat.le_of_ble_eq_true rfl, Nat.le_of_ble_eq_true rfl, cal_28⟩, rfl, gw_1412, gw_1073, gw_1074, _, rfl, rfl⟩) <| 
  mA1 rfl (⟨⟨Nat.le_of_ble_eq_true rfl, Nat.le_of_ble_eq_true rfl, Nat.le_of_ble_eq_true rfl, cal_31⟩, rfl, gw_1413, gw_1055, gw_1056, _, rfl, rfl⟩) <| 
  mA0 rfl <| 
  mA0 rfl <| 
  mA1 rfl (⟨⟨Nat.le_of_ble_eq_true rfl, Nat.le_of_ble_eq_true rfl, Nat.le_of_ble_eq_true rfl, cal_94⟩, rfl, gw_1414, gw_401, gw_402, _, rfl, rfl⟩) <| 
  mA0 rfl <| 
  mA0 rfl <| 
  mA0 rfl <| 
  mA1 rfl (⟨⟨Nat.le_of_ble_eq_true rfl, Nat.le_of_ble_eq_true rfl, Nat.le_of_ble_eq_true rfl, cal_28⟩, rfl, gw_1412, gw_1073, gw_1074, _, rfl, rfl⟩) <| 
  mA0 rfl <| 
  mA0 rfl <| 
  mA0 rfl <| 
  mA0 rfl <| 
  mA0 rfl <| 
  mA0 rfl <| 
  mA0 rfl <| 
  mA0 rfl <| 
  mA1 rfl (⟨⟨Nat.le_of_ble_eq_true rfl, Nat.le_of_ble_eq_true rfl, Nat.le_of_ble_eq_true rfl, cal_104⟩, rfl, gw_1415, gw_656, gw_657, _, rfl, rfl⟩) <| 
  mA1 rfl (Or.inr ⟨by decide, rfl⟩) <| trivial

theorem mc_33 : mAllP 33 mt_33 :=
  mA0 rfl <| 
  mA0 rfl <| 
  mA0 rfl <| 
  mA0 rfl <| 
  mA0 rfl <| 
  mA0 rfl <| 
  mA1 rfl (⟨_, rfl, Nat.le_of_ble_eq_true rfl, gw_146, rfl⟩) <| 
  mA1 rfl (⟨⟨Nat.le_of_ble_eq_true rfl, Nat.le_of_ble_eq_true rfl, Nat.le_of_ble_eq_true rfl, cal_93⟩, rfl, gw_1040, gw_92, gw_93, _, rfl, rfl⟩) <| 
  mA0 rfl <| 
  mA0 rfl <| 
  mA0 rfl <| 
  mA0 rfl <| 
  mA0 rfl <| 
  mA1 rfl (⟨⟨Nat.le_of_ble_eq_true rfl, Nat.le_of_ble_eq_true rfl, Nat.le_of_ble_eq_true rfl, cal_32⟩, rfl, gw_1407, gw_1408, gw_1409, _, rfl, rfl⟩) <| 
  mA0 rfl <| 
  mA0 rfl <| 
  mA0 rfl <| 
  mA0 rfl <| 
  mA0 rfl <| 
  mA0 rfl <| 
  mA0 rfl <| 
  mA0 rfl <| 
  mA0 rfl <| 
  mA1 rfl (Or.inl ⟨rfl, rfl⟩) <| trivial

theorem mc_34 : mAllP 34 mt_34 :=
  mA0 rfl <| 
  mA1 rfl (⟨gw_182, gw_27, gw_28, Nat.le_of_ble_eq_true rfl, Nat.le_of_ble_eq_true rfl⟩) <| 
  mA0 rfl <| 
  mA1 rfl (⟨_, rfl, gw_183, gw_47, gw_3⟩) <| 
  mA0 rfl <| 
  mA0 rfl <| 
  mA1 rfl (⟨⟨Nat.le_of_ble_eq_true rfl, Nat.le_of_ble_eq_true rfl, Nat.le_of_ble_eq_true rfl, cal_92⟩, rfl, rfl, (fun E => ⟨(100000, 0), rfl, mNone _⟩), gw_49, rfl, Or.inl gw_184⟩) <| 
  mA1 rfl (⟨_, rfl, Nat.le_of_ble_eq_true rfl, gw_185, rfl, Or.inr ⟨rfl, ini_34, rfl⟩⟩) <| 
  mA0 rfl <| 
  mA1 rfl (⟨_, rfl, gw_183, gw_47, gw_3⟩) <| 
  mA0 rfl <| 
  mA0 rfl <| 
  mA1 rfl (⟨⟨Nat.le_of_ble_eq_true rfl, Nat.le_of_ble_eq_true rfl, Nat.le_of_ble_eq_true rfl, cal_92⟩, rfl, rfl, (fun E => ⟨(100000, 0), rfl, mNone _⟩), gw_49, rfl, Or.inl gw_184⟩) <| 
  mA1 rfl (⟨_, rfl, Nat.le_of_ble_eq_true rfl, gw_186, rfl, Or.inr ⟨rfl, ini_34, rfl⟩⟩) <| 
  mA0 rfl <| 
  mA1 rfl (⟨_, rfl, gw_183, gw_47, gw_3⟩) <| 
  mA0 rfl <| 
  mA0 rfl <| 
  mA1 rfl (⟨⟨Nat.le_of_ble_eq_true rfl, Nat.le_of_ble_eq_true rfl, Nat.le_of_ble_eq_true rfl, cal_92⟩, rfl, rfl, (fun E => ⟨(100000, 0), rfl, mNone _⟩), gw_49, rfl, Or.inl gw_184⟩) <| 
  mA1 rfl (⟨_, rfl, Nat.le_of_ble_eq_true rfl, gw_187, rfl, Or.inr ⟨rfl, ini_34, rfl⟩⟩) <| 
  mA0 rfl <| 
  mA1 rfl (⟨_, rfl, gw_183, gw_47, gw_3⟩) <| 
  mA0 rfl <| 
  mA0 rfl <| 
  mA1 rfl (⟨⟨Nat.le_of_ble_eq_true rfl, Nat.le_of_ble_eq_true rfl, Nat.le_of_ble_eq_true rfl, cal_92⟩, rfl, rfl, (fun E => ⟨(100000, 0), rfl, mNone _⟩), gw_49, rfl, Or.inl gw_184⟩) <| 
  mA1 rfl (⟨_, rfl, Nat.le_of_ble_eq_true rfl, gw_188, rfl, Or.inr ⟨rfl, ini_34, rfl⟩⟩) <| 
  mA0 rfl <| 
  mA1 rfl (⟨_, rfl, gw_183, gw_47, gw_3⟩) <| 
  mA0 rfl <| 
  mA0 rfl <| 
  mA1 rfl (⟨⟨Nat.le_of_ble_eq_true rfl, Nat.le_of_ble_eq_true rfl, Nat.le_of_ble_eq_true rfl, cal_92⟩, rfl, rfl, (fun E => ⟨(100000, 0), rfl, mNone _⟩), gw_49, rfl, Or.inl gw_184⟩) <| 
  mA1 rfl (⟨_, rfl, Nat.le_of_ble_eq_true rfl, gw_189, rfl, Or.inr ⟨rfl, ini_34, rfl⟩⟩) <| 
  mA1 rfl (rfl) <| trivial

theorem mc_35 : mAllP 35 mt_35 :=
  mA0 rfl <| 
  mA0 rfl <| 
  mA1 rfl (⟨⟨Nat.le_of_ble_eq_true rfl, Nat.le_of_ble_eq_true rfl, Nat.le_of_ble_eq_true rfl, cal_93⟩, rfl, gw_728, gw_92, gw_93, _, rfl, rfl⟩) <| 
  mA1 rfl (⟨⟨Nat.le_of_ble_eq_true rfl, Nat.le_of_ble_eq_true rfl, Nat.le_of_ble_eq_true rfl, cal_36⟩, rfl, gw_729, gw_731, gs_36, _, rfl, rfl⟩) <| 
  mA0 rfl <| 
  mA0 rfl <| 
  mA0 rfl <| 
  mA0 rfl <| 
  mA1 rfl (⟨⟨Nat.le_of_ble_eq_true rfl, Nat.le_of_ble_eq_true rfl, Nat.le_of_ble_eq_true rfl, cal_93⟩, rfl, gw_728, gw_92, gw_93, _, rfl, rfl⟩) <| 
  mA0 rfl <| 
  mA0 rfl <| 
  mA0 rfl <| 
  mA1 rfl (⟨⟨Nat.le_of_ble_eq_true rfl, Nat.le_of_ble_eq_true rfl, Nat.le_of_ble_eq_true rfl, cal_95⟩, rfl, gw_735, gw_96, gw_97, _, rfl, rfl⟩) <| 
  mA0 rfl <| 
  mA0 rfl <| 
  mA1 rfl (⟨_, rfl, Nat.le_of_ble_eq_true rfl, gw_189, rfl⟩) <| 
  mA0 rfl <| 
  mA1 rfl (⟨⟨Nat.le_of_ble_eq_true rfl, Nat.le_of_ble_eq_true rfl, Nat.le_of_ble_eq_true rfl, cal_95⟩, rfl, gw_735, gw_96, gw_97, _, rfl, rfl⟩) <| 
  mA0 rfl <| 
  mA0 rfl <| 
  mA0 rfl <| 
  mA0 rfl <| 
  mA1 rfl (⟨⟨Nat.le_of_ble_eq_true rfl, Nat.le_of_ble_eq_true rfl, Nat.le_of_ble_eq_true rfl, cal_179⟩, gw_537, Or.inr ⟨rfl, (fun E => ⟨(100000, 0), rfl, mNone _⟩), _, List.mem_of_getElem? (i := 14) rfl⟩⟩) <| 
  mA0 rfl <| 
  mA0 rfl <| 
  mA0 rfl <| 
  mA0 rfl <| 
  mA1 rfl (⟨⟨Nat.le_of_ble_eq_true rfl, Nat.le_of_ble_eq_true rfl, Nat.le_of_ble_eq_true rfl, cal_39⟩, rfl, gw_737, gw_739, gs_39, _, rfl, rfl⟩) <| 
  mA0 rfl <| 
  mA0 rfl <| 
  mA1 rfl (⟨⟨Nat.le_of_ble_eq_true rfl, Nat.le_of_ble_eq_true rfl, Nat.le_of_ble_eq_true rfl, cal_181⟩, gw_751, Or.inr ⟨rfl, (fun E => ⟨(100000, 0), rfl, mNone _⟩), _, List.mem_of_getElem? (i := 15) rfl⟩⟩) <| 
  mA0 rfl <| 
  mA0 rfl <| 
  mA0 rfl <| 
  mA1 rfl (⟨⟨Nat.le_of_ble_eq_true rfl, Nat.le_of_ble_eq_true rfl, Nat.le_of_ble_eq_true rfl, cal_108⟩, rfl, gw_753, gw_754, gw_755, _, rfl, rfl⟩) <| 
  mA0 rfl <| 
  mA0 rfl <| 
  mA0 rfl <| 
  mA0 rfl <| 
  mA0 rfl <| 
  mA1 rfl (⟨⟨Nat.le_of_ble_eq_true rfl, Nat.le_of_ble_eq_true rfl, Nat.le_of_ble_eq_true rfl, cal_40⟩, rfl, gw_757, gw_759, gs_40, _, rfl, rfl⟩) <| 
  mA0 rfl <| 
  mA0 rfl <| 
  mA0 rfl <| 
  mA0 rfl <| 
  mA0 rfl <| 
  mA1 rfl (⟨⟨Nat.le_of_ble_eq_true rfl, Nat.le_of_ble_eq_true rfl, Nat.le_of_ble_eq_true rfl, cal_41⟩, rfl, gw_768, gw_770, gs_41, _, rfl, rfl⟩) <| 
  mA0 rfl <| 
  mA0 rfl <| 
  mA1 rfl (rfl) <| trivial

theorem mc_36 : mAllP 36 mt_36 :=
  mA0 rfl <| 
  mA1 rfl (⟨_, rfl, Nat.le_of_ble_eq_true rfl, gw_185, rfl⟩) <| 
  mA1 rfl (⟨⟨Nat.le_of_ble_eq_true rfl, Nat.le_of_ble_eq_true rfl, Nat.le_of_ble_eq_true rfl, cal_100⟩, rfl, gw_733, gw_88, gw_89, _, rfl, rfl⟩) <| 
  mA0 rfl <| 
  mA1 rfl (⟨_, rfl, Nat.le_of_ble_eq_true rfl, gw_186, rfl⟩) <| 
  mA1 rfl (⟨⟨Nat.le_of_ble_eq_true rfl, Nat.le_of_ble_eq_true rfl, Nat.le_of_ble_eq_true rfl, cal_100⟩, rfl, gw_733, gw_88, gw_89, _, rfl, rfl⟩) <| 
  mA0 rfl <| 
  mA1 rfl (⟨_, rfl, Nat.le_of_ble_eq_true rfl, gw_187, rfl⟩) <| 
  mA1 rfl (⟨⟨Nat.le_of_ble_eq_true rfl, Nat.le_of_ble_eq_true rfl, Nat.le_of_ble_eq_true rfl, cal_100⟩, rfl, gw_733, gw_88, gw_89, _, rfl, rfl⟩) <| 
  mA0 rfl <| 
  mA1 rfl (⟨_, rfl, Nat.le_of_ble_eq_true rfl, gw_188, rfl⟩) <| 
  mA1 rfl (⟨⟨Nat.le_of_ble_eq_true rfl, Nat.le_of_ble_eq_true rfl, Nat.le_of_ble_eq_true rfl, cal_100⟩, rfl, gw_733, gw_88, gw_89, _, rfl, rfl⟩) <| 
  mA0 rfl <| 
  mA1 rfl (⟨_, rfl, Nat.le_of_ble_eq_true rfl, gw_189, rfl⟩) <| 
  mA1 rfl (⟨⟨Nat.le_of_ble_eq_true rfl, Nat.le_of_ble_eq_true rfl, Nat.le_of_ble_eq_true rfl, cal_100⟩, rfl, gw_733, gw_88, gw_89, _, rfl, rfl⟩) <| 
  mA0 rfl <| 
  mA0 rfl <| 
  mA0 rfl <| 
  mA0 rfl <| 
  mA0 rfl <| 
  mA0 rfl <| 
  mA1 rfl (⟨_, rfl, Nat.le_of_ble_eq_true rfl, gw_189, rfl⟩) <| 
  mA0 rfl <| 
  mA1 rfl (⟨⟨Nat.le_of_ble_eq_true rfl, Nat.le_of_ble_eq_true rfl, Nat.le_of_ble_eq_true rfl, cal_97⟩, rfl, gw_734, gw_80, gw_81, _, rfl, rfl⟩) <| 
  mA0 rfl <| 
  mA0 rfl <| 
  mA0 rfl <| 
  mA0 rfl <| 
  mA1 rfl (⟨_, rfl, Nat.le_of_ble_eq_true rfl, gw_190, rfl, Or.inl rfl⟩) <| 
  mA1 rfl (rfl) <| trivial

theorem mc_37 : mAllP 37 mt_37 :=
  mA0 rfl <| 
  mA1 rfl (⟨_, rfl, Nat.le_of_ble_eq_true rfl, gw_185, rfl⟩) <| 
  mA0 rfl <| 
  mA1 rfl (⟨⟨Nat.le_of_ble_eq_true rfl, Nat.le_of_ble_eq_true rfl, Nat.le_of_ble_eq_true rfl, cal_97⟩, rfl, gw_734, gw_80, gw_81, _, rfl, rfl⟩) <| 
  mA0 rfl <| 
  mA1 rfl (⟨_, rfl, Nat.le_of_ble_eq_true rfl, gw_186, rfl⟩) <| 
  mA0 rfl <| 
  mA1 rfl (⟨⟨Nat.le_of_ble_eq_true rfl, Nat.le_of_ble_eq_true rfl, Nat.le_of_ble_eq_true rfl, cal_97⟩, rfl, gw_734, gw_80, gw_81, _, rfl, rfl⟩) <| 
  mA0 rfl <| 
  mA1 rfl (⟨_, rfl, Nat.le_of_ble_eq_true rfl, gw_187, rfl⟩) <| 
  mA0 rfl <| 
  mA1 rfl (⟨⟨Nat.le_of_ble_eq_true rfl, Nat.le_of_ble_eq_true rfl, Nat.le_of_ble_eq_true rfl, cal_97⟩, rfl, gw_734, gw_80, gw_81, _, rfl, rfl⟩) <| 
  mA0 rfl <| 
  mA1 rfl (⟨_, rfl, Nat.le_of_ble_eq_true rfl, gw_188, rfl⟩) <| 
  mA0 rfl <| 
  mA1 rfl (⟨_, rfl, Nat.le_of_ble_eq_true rfl, gw_190, rfl⟩) <| 
  mA1 rfl (⟨⟨Nat.le_of_ble_eq_true rfl, Nat.le_of_ble_eq_true rfl, Nat.le_of_ble_eq_true rfl, cal_97⟩, rfl, gw_734, gw_80, gw_81, _, rfl, rfl⟩) <| 
  mA1 rfl (rfl) <| trivial

theorem mc_38 : mAllP 38 mt_38 :=
  mA0 rfl <| 
  mA0 rfl <| 
  mA0 rfl <| 
  mA0 rfl <| 
  mA0 rfl <| 
  mA0 rfl <| 
  mA1 rfl (⟨_, rfl, Nat.le_of_ble_eq_true rfl, gw_189, rfl⟩) <| 
  mA0 rfl <| 
  mA0 rfl <| 
  mA1 rfl (⟨⟨Nat.le_of_ble_eq_true rfl, Nat.le_of_ble_eq_true rfl, Nat.le_of_ble_eq_true rfl, cal_96⟩, rfl, gw_745, gw_592, gw_593, _, rfl, rfl⟩) <| 
  mA0 rfl <| 
  mA0 rfl <| 
  mA1 rfl (rfl) <| trivial

theorem mc_39 : mAllP 39 mt_39 :=
  mA0 rfl <| 
  mA0 rfl <| 
  mA1 rfl (⟨_, rfl, Nat.le_of_ble_eq_true rfl, gw_190, rfl⟩) <| 
  mA0 rfl <| 
  mA0 rfl <| 
  mA0 rfl <| 
  mA0 rfl <| 
  mA1 rfl (⟨_, rfl, Nat.le_of_ble_eq_true rfl, gw_190, rfl, Or.inl rfl⟩) <| 
  mA0 rfl <| 
  mA0 rfl <| 
  mA0 rfl <| 
  mA0 rfl <| 
  mA0 rfl <| 
  mA0 rfl <| 
  mA1 rfl (⟨⟨Nat.le_of_ble_eq_true rfl, Nat.le_of_ble_eq_true rfl, Nat.le_of_ble_eq_true rfl, cal_38⟩, rfl, gw_741, gw_743, gs_38, _, rfl, rfl⟩) <| 
  mA0 rfl <| 
  mA0 rfl <| 
  mA0 rfl <| 
  mA0 rfl <| 
  mA0 rfl <| 
  mA0 rfl <| 
  mA0 rfl <| 
  mA0 rfl <| 
  mA1 rfl (⟨⟨Nat.le_of_ble_eq_true rfl, Nat.le_of_ble_eq_true rfl, Nat.le_of_ble_eq_true rfl, cal_37⟩, rfl, gw_746, gw_747, gw_748, _, rfl, rfl⟩) <| 
  mA1 rfl (rfl) <| trivial

theorem mc_40 : mAllP 40 mt_40 :=
  mA0 rfl <| 
  mA0 rfl <| 
  mA1 rfl (⟨_, rfl, Nat.le_of_ble_eq_true rfl, gw_190, rfl, Or.inl rfl⟩) <| 
  mA0 rfl <| 
  mA0 rfl <| 
  mA0 rfl <| 
  mA0 rfl <| 
  mA1 rfl (⟨⟨Nat.le_of_ble_eq_true rfl, Nat.le_of_ble_eq_true rfl, Nat.le_of_ble_eq_true rfl, cal_93⟩, rfl, gw_728, gw_92, gw_93, _, rfl, rfl⟩) <| 
  mA0 rfl <| 
  mA0 rfl <| 
  mA0 rfl <| 
  mA1 rfl (⟨⟨Nat.le_of_ble_eq_true rfl, Nat.le_of_ble_eq_true rfl, Nat.le_of_ble_eq_true rfl, cal_95⟩, rfl, gw_735, gw_96, gw_97, _, rfl, rfl⟩) <| 
  mA1 rfl (⟨⟨Nat.le_of_ble_eq_true rfl, Nat.le_of_ble_eq_true rfl, Nat.le_of_ble_eq_true rfl, cal_181⟩, gw_751, Or.inr ⟨rfl, (fun E => ⟨(100000, 0), rfl, mNone _⟩), _, List.mem_of_getElem? (i := 15) rfl⟩⟩) <| 
  mA0 rfl <| 
  mA0 rfl <| 
  mA0 rfl <| 
  mA0 rfl <| 
  mA0 rfl <| 
  mA0 rfl <| 
  mA0 rfl <| 
  mA1 rfl (⟨⟨Nat.le_of_ble_eq_true rfl, Nat.le_of_ble_eq_true rfl, Nat.le_of_ble_eq_true rfl, cal_38⟩, rfl, gw_741, gw_743, gs_38, _, rfl, rfl⟩) <| 
  mA0 rfl <| 
  mA0 rfl <| 
  mA0 rfl <| 
  mA0 rfl <| 
  mA0 rfl <| 
  mA0 rfl <| 
  mA0 rfl <| 
  mA0 rfl <| 
  mA0 rfl <| 
  mA1 rfl (⟨⟨Nat.le_of_ble_eq_true rfl, Nat.le_of_ble_eq_true rfl, Nat.le_of_ble_eq_true rfl, cal_95⟩, rfl, gw_735, gw_96, gw_97, _, rfl, rfl⟩) <| 
  mA0 rfl <| 
  mA0 rfl <| 
  mA0 rfl <| 
  mA0 rfl <| 
  mA0 rfl <| 
  mA0 rfl <| 
  mA0 rfl <| 
  mA1 rfl (⟨⟨Nat.le_of_ble_eq_true rfl, Nat.le_of_ble_eq_true rfl, Nat.le_of_ble_eq_true rfl, cal_185⟩, gw_77, Or.inr ⟨rfl, (fun E => ⟨(100000, 0), rfl, mNone _⟩), _, List.mem_of_getElem? (i := 16) rfl⟩⟩) <| 
  mA1 rfl (⟨⟨Nat.le_of_ble_eq_true rfl, Nat.le_of_ble_eq_true rfl, Nat.le_of_ble_eq_true rfl, cal_114⟩, rfl, gw_762, gw_763, gw_764, _, rfl, rfl⟩) <| 
  mA0 rfl <| 
  mA0 rfl <| 
  mA1 rfl (⟨⟨Nat.le_of_ble_eq_true rfl, Nat.le_of_ble_eq_true rfl, Nat.le_of_ble_eq_true rfl, cal_37⟩, rfl, gw_746, gw_747, gw_748, _, rfl, rfl⟩) <| 
  mA0 rfl <| 
  mA0 rfl <| 
  mA0 rfl <| 
  mA0 rfl <| 
  mA0 rfl <| 
  mA0 rfl <| 
  mA1 rfl (⟨⟨Nat.le_of_ble_eq_true rfl, Nat.le_of_ble_eq_true rfl, Nat.le_of_ble_eq_true rfl, cal_37⟩, rfl, gw_746, gw_747, gw_748, _, rfl, rfl⟩) <| 
  mA0 rfl <| 
  mA0 rfl <| 
  mA0 rfl <| 
  mA0 rfl <| 
  mA0 rfl <| 
  mA0 rfl <| 
  mA0 rfl <| 
  mA0 rfl <| 
  mA1 rfl (⟨⟨Nat.le_of_ble_eq_true rfl, Nat.le_of_ble_eq_true rfl, Nat.le_of_ble_eq_true rfl, cal_95⟩, rfl, gw_735, gw_96, gw_97, _, rfl, rfl⟩) <| 
  mA0 rfl <| 
  mA0 rfl <| 
  mA0 rfl <| 
  mA0 rfl <| 
  mA0 rfl <| 
  mA0 rfl <| 
  mA1 rfl (⟨⟨Nat.le_of_ble_eq_true rfl, Nat.le_of_ble_eq_true rfl, Nat.le_of_ble_eq_true rfl, cal_37⟩, rfl, gw_746, gw_747, gw_748, _, rfl, rfl⟩) <| 
  mA0 rfl <| 
  mA0 rfl <| 
  mA1 rfl (rfl) <| trivial

theorem mc_41 : mAllP 41 mt_41 :=
  mA0 rfl <| 
  mA0 rfl <| 
  mA0 rfl <| 
  mA1 rfl (⟨⟨Nat.le_of_ble_eq_true rfl, Nat.le_of_ble_eq_true rfl, Nat.le_of_ble_eq_true rfl, cal_95⟩, rfl, gw_735, gw_96, gw_97, _, rfl, rfl⟩) <| 
  mA1 rfl (⟨⟨Nat.le_of_ble_eq_true rfl, Nat.le_of_ble_eq_true rfl, Nat.le_of_ble_eq_true rfl, cal_180⟩, gw_773, Or.inr ⟨rfl, (fun E => ⟨(100000, 0), rfl, mNone _⟩), _, List.mem_of_getElem? (i := 17) rfl⟩⟩) <| 
  mA0 rfl <| 
  mA0 rfl <| 
  mA0 rfl <| 
  mA0 rfl <| 
  mA1 rfl (⟨_, rfl, Nat.le_of_ble_eq_true rfl, gw_190, rfl, Or.inl rfl⟩) <| 
  mA0 rfl <| 
  mA0 rfl <| 
  mA0 rfl <| 
  mA0 rfl <| 
  mA0 rfl <| 
  mA0 rfl <| 
  mA0 rfl <| 
  mA0 rfl <| 
  mA0 rfl <| 
  mA0 rfl <| 
  mA0 rfl <| 
  mA1 rfl (⟨⟨Nat.le_of_ble_eq_true rfl, Nat.le_of_ble_eq_true rfl, Nat.le_of_ble_eq_true rfl, cal_184⟩, gw_632, Or.inr ⟨rfl, (fun E => ⟨(100000, 0), rfl, mNone _⟩), _, List.mem_of_getElem? (i := 18) rfl⟩⟩) <| 
  mA1 rfl (⟨⟨Nat.le_of_ble_eq_true rfl, Nat.le_of_ble_eq_true rfl, Nat.le_of_ble_eq_true rfl, cal_113⟩, rfl, gw_776, gw_777, gw_778, _, rfl, rfl⟩) <| 
  mA0 rfl <| 
  mA0 rfl <| 
  mA0 rfl <| 
  mA0 rfl <| 
  mA0 rfl <| 
  mA0 rfl <| 
  mA0 rfl <| 
  mA0 rfl <| 
  mA0 rfl <| 
  mA1 rfl (⟨⟨Nat.le_of_ble_eq_true rfl, Nat.le_of_ble_eq_true rfl, Nat.le_of_ble_eq_true rfl, cal_38⟩, rfl, gw_741, gw_743, gs_38, _, rfl, rfl⟩) <| 
  mA0 rfl <| 
  mA0 rfl <| 
  mA0 rfl <| 
  mA0 rfl <| 
  mA0 rfl <| 
  mA0 rfl <| 
  mA1 rfl (⟨⟨Nat.le_of_ble_eq_true rfl, Nat.le_of_ble_eq_true rfl, Nat.le_of_ble_eq_true rfl, cal_42⟩, rfl, gw_780, gw_782, gs_42, _, rfl, rfl⟩) <| 
  mA0 rfl <| 
  mA1 rfl (⟨⟨Nat.le_of_ble_eq_true rfl, Nat.le_of_ble_eq_true rfl, Nat.le_of_ble_eq_true rfl, cal_115⟩, rfl, gw_786, gw_787, gw_788, _, rfl, rfl⟩) <| 
  mA1 rfl (rfl) <| trivial

theorem mc_42 : mAllP 42 mt_42 :=
  mA0 rfl <| 
  mA0 rfl <| 
  mA0 rfl <| 
  mA0 rfl <| 
  mA0 rfl <| 
  mA1 rfl (⟨⟨Nat.le_of_ble_eq_true rfl, Nat.le_of_ble_eq_true rfl, Nat.le_of_ble_eq_true rfl, cal_184⟩, gw_632, Or.inr ⟨rfl, (fun E => ⟨(100000, 0), rfl, mNone _⟩), _, List.mem_of_getElem? (i := 18) rfl⟩⟩) <| 
  mA0 rfl <| 
  mA0 rfl <| 
  mA0 rfl <| 
  mA0 rfl <| 
  mA0 rfl <| 
  mA0 rfl <| 
  mA0 rfl <| 
  mA0 rfl <| 
  mA0 rfl <| 
  mA1 rfl (⟨⟨Nat.le_of_ble_eq_true rfl, Nat.le_of_ble_eq_true rfl, Nat.le_of_ble_eq_true rfl, cal_93⟩, rfl, gw_728, gw_92, gw_93, _, rfl, rfl⟩) <| 
  mA0 rfl <| 
  mA0 rfl <| 
  mA0 rfl <| 
  mA1 rfl (⟨⟨Nat.le_of_ble_eq_true rfl, Nat.le_of_ble_eq_true rfl, Nat.le_of_ble_eq_true rfl, cal_95⟩, rfl, gw_735, gw_96, gw_97, _, rfl, rfl⟩) <| 
  mA1 rfl (⟨⟨Nat.le_of_ble_eq_true rfl, Nat.le_of_ble_eq_true rfl, Nat.le_of_ble_eq_true rfl, cal_179⟩, gw_537, Or.inr ⟨rfl, (fun E => ⟨(100000, 0), rfl, mNone _⟩), _, List.mem_of_getElem? (i := 14) rfl⟩⟩) <| 
  mA0 rfl <| 
  mA0 rfl <| 
  mA0 rfl <| 
  mA0 rfl <| 
  mA0 rfl <| 
  mA0 rfl <| 
  mA1 rfl (⟨⟨Nat.le_of_ble_eq_true rfl, Nat.le_of_ble_eq_true rfl, Nat.le_of_ble_eq_true rfl, cal_95⟩, rfl, gw_735, gw_96, gw_97, _, rfl, rfl⟩) <| 
  mA1 rfl (⟨⟨Nat.le_of_ble_eq_true rfl, Nat.le_of_ble_eq_true rfl, Nat.le_of_ble_eq_true rfl, cal_185⟩, gw_77, Or.inr ⟨rfl, (fun E => ⟨(100000, 0), rfl, mNone _⟩), _, List.mem_of_getElem? (i := 16) rfl⟩⟩) <| 
  mA0 rfl <| 
  mA0 rfl <| 
  mA0 rfl <| 
  mA0 rfl <| 
  mA1 rfl (⟨⟨Nat.le_of_ble_eq_true rfl, Nat.le_of_ble_eq_true rfl, Nat.le_of_ble_eq_true rfl, cal_95⟩, rfl, gw_735, gw_96, gw_97, _, rfl, rfl⟩) <| 
  mA1 rfl (⟨⟨Nat.le_of_ble_eq_true rfl, Nat.le_of_ble_eq_true rfl, Nat.le_of_ble_eq_true rfl, cal_182⟩, gw_587, Or.inr ⟨rfl, (fun E => ⟨(100000, 0), rfl, mNone _⟩), _, List.mem_of_getElem? (i := 19) rfl⟩⟩) <| 
  mA0 rfl <| 
  mA0 rfl <| 
  mA0 rfl <| 
  mA0 rfl <| 
  mA1 rfl (⟨⟨Nat.le_of_ble_eq_true rfl, Nat.le_of_ble_eq_true rfl, Nat.le_of_ble_eq_true rfl, cal_113⟩, rfl, gw_776, gw_777, gw_778, _, rfl, rfl⟩) <| 
  mA0 rfl <| 
  mA0 rfl <| 
  mA0 rfl <| 
  mA0 rfl <| 
  mA0 rfl <| 
  mA0 rfl <| 
  mA0 rfl <| 
  mA1 rfl (⟨⟨Nat.le_of_ble_eq_true rfl, Nat.le_of_ble_eq_true rfl, Nat.le_of_ble_eq_true rfl, cal_38⟩, rfl, gw_741, gw_743, gs_38, _, rfl, rfl⟩) <| 
  mA0 rfl <| 
  mA0 rfl <| 
  mA0 rfl <| 
  mA0 rfl <| 
  mA0 rfl <| 
  mA0 rfl <| 
  mA1 rfl (⟨⟨Nat.le_of_ble_eq_true rfl, Nat.le_of_ble_eq_true rfl, Nat.le_of_ble_eq_true rfl, cal_95⟩, rfl, gw_735, gw_96, gw_97, _, rfl, rfl⟩) <| 
  mA1 rfl (⟨⟨Nat.le_of_ble_eq_true rfl, Nat.le_of_ble_eq_true rfl, Nat.le_of_ble_eq_true rfl, cal_182⟩, gw_587, Or.inr ⟨rfl, (fun E => ⟨(100000, 0), rfl, mNone _⟩), _, List.mem_of_getElem? (i := 19) rfl⟩⟩) <| 
  mA1 rfl (⟨⟨Nat.le_of_ble_eq_true rfl, Nat.le_of_ble_eq_true rfl, Nat.le_of_ble_eq_true rfl, cal_329⟩, gw_53, Or.inl gw_785⟩) <| 
  mA0 rfl <| 
  mA0 rfl <| 
  mA0 rfl <| 
  mA0 rfl <| 
  mA1 rfl (Or.inl ⟨rfl, rfl⟩) <| trivial

theorem mc_43 : mAllP 43 mt_43 :=
  mA0 rfl <| 
  mA0 rfl <| 
  mA0 rfl <| 
  mA0 rfl <| 
  mA1 rfl (⟨_, rfl, Nat.le_of_ble_eq_true rfl, gw_185, rfl⟩) <| 
  mA1 rfl (⟨⟨Nat.le_of_ble_eq_true rfl, Nat.le_of_ble_eq_true rfl, Nat.le_of_ble_eq_true rfl, cal_93⟩, rfl, gw_728, gw_92, gw_93, _, rfl, rfl⟩) <| 
  mA0 rfl <| 
  mA0 rfl <| 
  mA1 rfl (Or.inl ⟨rfl, rfl⟩) <| 
  mA0 rfl <| 
  mA0 rfl <| 
  mA1 rfl (⟨_, rfl, Nat.le_of_ble_eq_true rfl, gw_185, rfl⟩) <| 
  mA0 rfl <| 
  mA1 rfl (⟨⟨Nat.le_of_ble_eq_true rfl, Nat.le_of_ble_eq_true rfl, Nat.le_of_ble_eq_true rfl, cal_95⟩, rfl, gw_735, gw_96, gw_97, _, rfl, rfl⟩) <| 
  mA0 rfl <| 
  mA0 rfl <| 
  mA0 rfl <| 
  mA1 rfl (⟨_, rfl, Nat.le_of_ble_eq_true rfl, gw_186, rfl⟩) <| 
  mA0 rfl <| 
  mA1 rfl (⟨⟨Nat.le_of_ble_eq_true rfl, Nat.le_of_ble_eq_true rfl, Nat.le_of_ble_eq_true rfl, cal_95⟩, rfl, gw_735, gw_96, gw_97, _, rfl, rfl⟩) <| 
  mA0 rfl <| 
  mA0 rfl <| 
  mA0 rfl <| 
  mA1 rfl (⟨_, rfl, Nat.le_of_ble_eq_true rfl, gw_187, rfl⟩) <| 
  mA0 rfl <| 
  mA1 rfl (⟨⟨Nat.le_of_ble_eq_true rfl, Nat.le_of_ble_eq_true rfl, Nat.le_of_ble_eq_true rfl, cal_95⟩, rfl, gw_735, gw_96, gw_97, _, rfl, rfl⟩) <| 
  mA0 rfl <| 
  mA1 rfl (Or.inl ⟨rfl, rfl⟩) <| trivial

theorem mc_44 : mAllP 44 mt_44 :=
  mA0 rfl <| 
  mA0 rfl <| 
  mA1 rfl (⟨⟨Nat.le_of_ble_eq_true rfl, Nat.le_of_ble_eq_true rfl, Nat.le_of_ble_eq_true rfl, cal_329⟩, gw_53, Or.inl gw_785⟩) <| 
  mA0 rfl <| 
  mA0 rfl <| 
  mA0 rfl <| 
  mA1 rfl (⟨_, rfl, Nat.le_of_ble_eq_true rfl, gw_189, rfl⟩) <| 
  mA1 rfl (⟨⟨Nat.le_of_ble_eq_true rfl, Nat.le_of_ble_eq_true rfl, Nat.le_of_ble_eq_true rfl, cal_93⟩, rfl, gw_728, gw_92, gw_93, _, rfl, rfl⟩) <| 
  mA0 rfl <| 
  mA0 rfl <| 
  mA1 rfl (⟨_, rfl, Nat.le_of_ble_eq_true rfl, gw_189, rfl⟩) <| 
  mA0 rfl <| 
  mA1 rfl (⟨⟨Nat.le_of_ble_eq_true rfl, Nat.le_of_ble_eq_true rfl, Nat.le_of_ble_eq_true rfl, cal_95⟩, rfl, gw_735, gw_96, gw_97, _, rfl, rfl⟩) <| 
  mA0 rfl <| 
  mA0 rfl <| 
  mA0 rfl <| 
  mA1 rfl (Or.inr ⟨by decide, rfl⟩) <| 
  mA0 rfl <| 
  mA0 rfl <| 
  mA0 rfl <| 
  mA1 rfl (Or.inr ⟨by decide, rfl⟩) <| trivial

theorem mc_45 : mAllP 45 mt_45 :=
  mA0 rfl <| 
  mA1 rfl (⟨⟨Nat.le_of_ble_eq_true rfl, Nat.le_of_ble_eq_true rfl, Nat.le_of_ble_eq_true rfl, cal_100⟩, rfl, gw_733, gw_88, gw_89, _, rfl, rfl⟩) <| 
  mA0 rfl <| 
  mA0 rfl <| 
  mA1 rfl (⟨⟨Nat.le_of_ble_eq_true rfl, Nat.le_of_ble_eq_true rfl, Nat.le_of_ble_eq_true rfl, cal_108⟩, rfl, gw_753, gw_754, gw_755, _, rfl, rfl⟩) <| 
  mA0 rfl <| 
  mA0 rfl <| 
  mA0 rfl <| 
  mA0 rfl <| 
  mA0 rfl <| 
  mA0 rfl <| 
  mA1 rfl (⟨⟨Nat.le_of_ble_eq_true rfl, Nat.le_of_ble_eq_true rfl, Nat.le_of_ble_eq_true rfl, cal_108⟩, rfl, gw_753, gw_754, gw_755, _, rfl, rfl⟩) <| 
  mA0 rfl <| 
  mA0 rfl <| 
  mA0 rfl <| 
  mA0 rfl <| 
  mA0 rfl <| 
  mA0 rfl <| 
  mA1 rfl (⟨_, rfl, Nat.le_of_ble_eq_true rfl, gw_185, rfl⟩) <| 
  mA1 rfl (⟨⟨Nat.le_of_ble_eq_true rfl, Nat.le_of_ble_eq_true rfl, Nat.le_of_ble_eq_true rfl, cal_93⟩, rfl, gw_728, gw_92, gw_93, _, rfl, rfl⟩) <| 
  mA0 rfl <| 
  mA0 rfl <| 
  mA0 rfl <| 
  mA0 rfl <| 
  mA0 rfl <| 
  mA0 rfl <| 
  mA0 rfl <| 
  mA0 rfl <| 
  mA0 rfl <| 
  mA0 rfl <| 
  mA0 rfl <| 
  mA0 rfl <| 
  mA0 rfl <| 
  mA0 rfl <| 
  mA0 rfl <| 
  mA0 rfl <| 
  mA0 rfl <| 
  mA0 rfl <| 
  mA0 rfl <| 
  mA0 rfl <| 
  mA0 rfl <| 
  mA0 rfl <| 
  mA1 rfl (⟨⟨Nat.le_of_ble_eq_true rfl, Nat.le_of_ble_eq_true rfl, Nat.le_of_ble_eq_true rfl, cal_47⟩, rfl, gw_796, gw_798, gs_47, _, rfl, rfl⟩) <| 
  mA0 rfl <| 
  mA0 rfl <| 
  mA0 rfl <| 
  mA0 rfl <| 
  mA0 rfl <| 
  mA1 rfl (⟨⟨Nat.le_of_ble_eq_true rfl, Nat.le_of_ble_eq_true rfl, Nat.le_of_ble_eq_true rfl, cal_46⟩, rfl, gw_800, gw_802, gs_46, _, rfl, rfl⟩) <| 
  mA0 rfl <| 
  mA0 rfl <| 
  mA0 rfl <| 
  mA0 rfl <| 
  mA0 rfl <| 
  mA1 rfl (⟨⟨Nat.le_of_ble_eq_true rfl, Nat.le_of_ble_eq_true rfl, Nat.le_of_ble_eq_true rfl, cal_97⟩, rfl, gw_734, gw_80, gw_81, _, rfl, rfl⟩) <| 
  mA0 rfl <| 
  mA0 rfl <| 
  mA1 rfl (rfl) <| trivial

theorem mc_46 : mAllP 46 mt_46 :=
  mA0 rfl <| 
  mA0 rfl <| 
  mA0 rfl <| 
  mA1 rfl (⟨_, rfl, Nat.le_of_ble_eq_true rfl, gw_188, rfl⟩) <| 
  mA0 rfl <| 
  mA1 rfl (⟨⟨Nat.le_of_ble_eq_true rfl, Nat.le_of_ble_eq_true rfl, Nat.le_of_ble_eq_true rfl, cal_95⟩, rfl, gw_735, gw_96, gw_97, _, rfl, rfl⟩) <| 
  mA0 rfl <| 
  mA0 rfl <| 
  mA1 rfl (Or.inl ⟨rfl, rfl⟩) <| 
  mA0 rfl <| 
  mA0 rfl <| 
  mA0 rfl <| 
  mA0 rfl <| 
  mA1 rfl (⟨_, rfl, Nat.le_of_ble_eq_true rfl, gw_185, rfl⟩) <| 
  mA0 rfl <| 
  mA1 rfl (⟨⟨Nat.le_of_ble_eq_true rfl, Nat.le_of_ble_eq_true rfl, Nat.le_of_ble_eq_true rfl, cal_95⟩, rfl, gw_735, gw_96, gw_97, _, rfl, rfl⟩) <| 
  mA0 rfl <| 
  mA0 rfl <| 
  mA0 rfl <| 
  mA0 rfl <| 
  mA0 rfl <| 
  mA1 rfl (⟨_, rfl, Nat.le_of_ble_eq_true rfl, gw_186, rfl⟩) <| 
  mA0 rfl <| 
  mA1 rfl (⟨⟨Nat.le_of_ble_eq_true rfl, Nat.le_of_ble_eq_true rfl, Nat.le_of_ble_eq_true rfl, cal_95⟩, rfl, gw_735, gw_96, gw_97, _, rfl, rfl⟩) <| 
  mA0 rfl <| 
  mA0 rfl <| 
  mA1 rfl (⟨_, rfl, Nat.le_of_ble_eq_true rfl, gw_187, rfl⟩) <| 
  mA0 rfl <| 
  mA1 rfl (⟨⟨Nat.le_of_ble_eq_true rfl, Nat.le_of_ble_eq_true rfl, Nat.le_of_ble_eq_true rfl, cal_95⟩, rfl, gw_735, gw_96, gw_97, _, rfl, rfl⟩) <| 
  mA1 rfl (Or.inl ⟨rfl, rfl⟩) <| trivial

theorem mc_47 : mAllP 47 mt_47 :=
  mA0 rfl <| 
  mA0 rfl <| 
  mA0 rfl <| 
  mA1 rfl (⟨_, rfl, Nat.le_of_ble_eq_true rfl, gw_188, rfl⟩) <| 
  mA0 rfl <| 
  mA1 rfl (⟨⟨Nat.le_of_ble_eq_true rfl, Nat.le_of_ble_eq_true rfl, Nat.le_of_ble_eq_true rfl, cal_95⟩, rfl, gw_735, gw_96, gw_97, _, rfl, rfl⟩) <| 
  mA0 rfl <| 
  mA0 rfl <| 
  mA0 rfl <| 
  mA1 rfl (Or.inl ⟨rfl, rfl⟩) <| 
  mA0 rfl <| 
  mA1 rfl (⟨_, rfl, Nat.le_of_ble_eq_true rfl, gw_188, rfl⟩) <| 
  mA0 rfl <| 
  mA1 rfl (⟨⟨Nat.le_of_ble_eq_true rfl, Nat.le_of_ble_eq_true rfl, Nat.le_of_ble_eq_true rfl, cal_95⟩, rfl, gw_735, gw_96, gw_97, _, rfl, rfl⟩) <| 
  mA0 rfl <| 
  mA0 rfl <| 
  mA0 rfl <| 
  mA1 rfl (⟨_, rfl, Nat.le_of_ble_eq_true rfl, gw_185, rfl⟩) <| 
  mA0 rfl <| 
  mA1 rfl (⟨⟨Nat.le_of_ble_eq_true rfl, Nat.le_of_ble_eq_true rfl, Nat.le_of_ble_eq_true rfl, cal_95⟩, rfl, gw_735, gw_96, gw_97, _, rfl, rfl⟩) <| 
  mA0 rfl <| 
  mA0 rfl <| 
  mA1 rfl (Or.inl ⟨rfl, rfl⟩) <| trivial

theorem mc_48 : mAllP 48 mt_48 :=
  mA0 rfl <| 
  mA1 rfl (⟨gw_270, gw_27, gw_28, Nat.le_of_ble_eq_true rfl, Nat.le_of_ble_eq_true rfl⟩) <| 
  mA0 rfl <| 
  mA0 rfl <| 
  mA1 rfl (⟨_, rfl, Nat.le_of_ble_eq_true rfl, gw_274, rfl, Or.inl rfl⟩) <| 
  mA0 rfl <| 
  mA1 rfl (⟨_, rfl, gw_271, gw_47, gw_3⟩) <| 
  mA0 rfl <| 
  mA0 rfl <| 
  mA1 rfl (⟨⟨Nat.le_of_ble_eq_true rfl, Nat.le_of_ble_eq_true rfl, Nat.le_of_ble_eq_true rfl, cal_92⟩, rfl, rfl, (fun E => ⟨(100000, 0), rfl, mNone _⟩), gw_49, rfl, Or.inl gw_272⟩) <| 
  mA1 rfl (⟨_, rfl, Nat.le_of_ble_eq_true rfl, gw_278, rfl, Or.inr ⟨rfl, ini_48, rfl⟩⟩) <| 
  mA0 rfl <| 
  mA1 rfl (⟨_, rfl, gw_271, gw_47, gw_3⟩) <| 
  mA0 rfl <| 
  mA0 rfl <| 
  mA1 rfl (⟨⟨Nat.le_of_ble_eq_true rfl, Nat.le_of_ble_eq_true rfl, Nat.le_of_ble_eq_true rfl, cal_92⟩, rfl, rfl, (fun E => ⟨(100000, 0), rfl, mNone _⟩), gw_49, rfl, Or.inl gw_272⟩) <| 
  mA1 rfl (⟨_, rfl, Nat.le_of_ble_eq_true rfl, gw_279, rfl, Or.inr ⟨rfl, ini_48, rfl⟩⟩) <| 
  mA0 rfl <| 
  mA0 rfl <| 
  mA1 rfl (⟨_, rfl, Nat.le_of_ble_eq_true rfl, gw_280, rfl, Or.inl rfl⟩) <| 
  mA1 rfl (rfl) <| trivial

theorem mc_49 : mAllP 49 mt_49 :=
  mA0 rfl <| 
  mA0 rfl <| 
  mA1 rfl (⟨_, rfl, Nat.le_of_ble_eq_true rfl, gw_273, rfl, Or.inl rfl⟩) <| 
  mA0 rfl <| 
  mA0 rfl <| 
  mA1 rfl (⟨_, rfl, Nat.le_of_ble_eq_true rfl, gw_274, rfl, Or.inl rfl⟩) <| 
  mA0 rfl <| 
  mA0 rfl <| 
  mA1 rfl (⟨_, rfl, Nat.le_of_ble_eq_true rfl, gw_275, rfl, Or.inl rfl⟩) <| 
  mA1 rfl (rfl) <| trivial

theorem mc_50 : mAllP 50 mt_50 :=
  mA0 rfl <| 
  mA1 rfl (⟨_, rfl, Nat.le_of_ble_eq_true rfl, gw_273, rfl⟩) <| 
  mA1 rfl (Or.inl ⟨rfl, rfl⟩) <| trivial

theorem mc_51 : mAllP 51 mt_51 :=
  mA0 rfl <| 
  mA1 rfl (⟨_, rfl, Nat.le_of_ble_eq_true rfl, gw_274, rfl⟩) <| 
  mA1 rfl (Or.inl ⟨rfl, rfl⟩) <| trivial

theorem mc_52 : mAllP 52 mt_52 :=
  mA0 rfl <| 
  mA1 rfl (⟨_, rfl, Nat.le_of_ble_eq_true rfl, gw_274, rfl⟩) <| 
  mA0 rfl <| 
  mA0 rfl <| 
  mA0 rfl <| 
  mA0 rfl <| 
  mA0 rfl <| 
  mA1 rfl (Or.inr ⟨by decide, rfl⟩) <| trivial

theorem mc_53 : mAllP 53 mt_53 :=
  mA0 rfl <| 
  mA1 rfl (⟨_, rfl, Nat.le_of_ble_eq_true rfl, gw_275, rfl⟩) <| 
  mA1 rfl (Or.inl ⟨rfl, rfl⟩) <| trivial

theorem mc_54 : mAllP 54 mt_54 :=
  mA0 rfl <| 
  mA1 rfl (⟨_, rfl, Nat.le_of_ble_eq_true rfl, gw_275, rfl⟩) <| 
  mA0 rfl <| 
  mA0 rfl <| 
  mA0 rfl <| 
  mA0 rfl <| 
  mA0 rfl <| 
  mA0 rfl <| 
  mA0 rfl <| 
  mA0 rfl <| 
  mA0 rfl <| 
  mA1 rfl (Or.inr ⟨by decide, rfl⟩) <| trivial

theorem mc_55 : mAllP 55 mt_55 :=
  mA0 rfl <| 
  mA1 rfl (⟨_, rfl, Nat.le_of_ble_eq_true rfl, gw_276, rfl⟩) <| 
  mA1 rfl (Or.inl ⟨rfl, rfl⟩) <| trivial

theorem mc_56 : mAllP 56 mt_56 :=
  mA0 rfl <| 
  mA1 rfl (⟨_, rfl, Nat.le_of_ble_eq_true rfl, gw_277, rfl⟩) <| 
  mA1 rfl (Or.inl ⟨rfl, rfl⟩) <| trivial

theorem mc_57 : mAllP 57 mt_57 :=
  mA0 rfl <| 
  mA1 rfl (⟨_, rfl, Nat.le_of_ble_eq_true rfl, gw_276, rfl⟩) <| 
  mA0 rfl <| 
  mA0 rfl <| 
  mA0 rfl <| 
  mA0 rfl <| 
  mA0 rfl <| 
  mA1 rfl (Or.inr ⟨by decide, rfl⟩) <| trivial

theorem mc_58 : mAllP 58 mt_58 :=
  mA0 rfl <| 
  mA0 rfl <| 
  mA1 rfl (⟨_, rfl, Nat.le_of_ble_eq_true rfl, gw_276, rfl, Or.inl rfl⟩) <| 
  mA0 rfl <| 
  mA0 rfl <| 
  mA1 rfl (⟨_, rfl, Nat.le_of_ble_eq_true rfl, gw_277, rfl, Or.inl rfl⟩) <| 
  mA1 rfl (rfl) <| trivial

theorem mc_59 : mAllP 59 mt_59 :=
  mA0 rfl <| 
  mA1 rfl (⟨_, rfl, Nat.le_of_ble_eq_true rfl, gw_278, rfl⟩) <| 
  mA1 rfl (⟨_, rfl⟩) <| trivial

theorem mc_60 : mAllP 60 mt_60 :=
  mA0 rfl <| 
  mA0 rfl <| 
  mA0 rfl <| 
  mA0 rfl <| 
  mA0 rfl <| 
  mA0 rfl <| 
  mA0 rfl <| 
  mA0 rfl <| 
  mA1 rfl (Or.inl ⟨rfl, rfl⟩) <| trivial

theorem mc_61 : mAllP 61 mt_61 :=
  mA0 rfl <| 
  mA0 rfl <| 
  mA1 rfl (⟨⟨Nat.le_of_ble_eq_true rfl, Nat.le_of_ble_eq_true rfl, Nat.le_of_ble_eq_true rfl, cal_60⟩, gw_1005, Or.inl gw_1004⟩) <| 
  mA0 rfl <| 
  mA0 rfl <| 
  mA0 rfl <| 
  mA1 rfl (Or.inl ⟨rfl, rfl⟩) <| trivial

theorem mc_62 : mAllP 62 mt_62 :=
  mA0 rfl <| 
  mA0 rfl <| 
  mA0 rfl <| 
  mA1 rfl (Or.inl ⟨rfl, rfl⟩) <| trivial

theorem mc_63 : mAllP 63 mt_63 :=
  mA0 rfl <| 
  mA0 rfl <| 
  mA0 rfl <| 
  mA1 rfl (⟨⟨Nat.le_of_ble_eq_true rfl, Nat.le_of_ble_eq_true rfl, Nat.le_of_ble_eq_true rfl, cal_60⟩, gw_1005, Or.inl gw_1004⟩) <| 
  mA1 rfl (Or.inl ⟨rfl, rfl⟩) <| trivial

theorem mc_64 : mAllP 64 mt_64 :=
  mA0 rfl <| 
  mA1 rfl (⟨_, rfl, Nat.le_of_ble_eq_true rfl, gw_278, rfl⟩) <| 
  mA0 rfl <| 
  mA0 rfl <| 
  mA1 rfl (⟨⟨Nat.le_of_ble_eq_true rfl, Nat.le_of_ble_eq_true rfl, Nat.le_of_ble_eq_true rfl, cal_61⟩, gw_1002, Or.inl gw_1001⟩) <| 
  mA1 rfl (⟨⟨Nat.le_of_ble_eq_true rfl, Nat.le_of_ble_eq_true rfl, Nat.le_of_ble_eq_true rfl, cal_104⟩, rfl, gw_1007, gw_656, gw_657, _, rfl, rfl⟩) <| 
  mA1 rfl (Or.inr ⟨by decide, rfl⟩) <| trivial

theorem mc_65 : mAllP 65 mt_65 :=
  mA0 rfl <| 
  mA0 rfl <| 
  mA1 rfl (⟨⟨Nat.le_of_ble_eq_true rfl, Nat.le_of_ble_eq_true rfl, Nat.le_of_ble_eq_true rfl, cal_61⟩, gw_1002, Or.inl gw_1001⟩) <| 
  mA0 rfl <| 
  mA0 rfl <| 
  mA1 rfl (⟨_, rfl, Nat.le_of_ble_eq_true rfl, gw_278, rfl⟩) <| 
  mA1 rfl (⟨⟨Nat.le_of_ble_eq_true rfl, Nat.le_of_ble_eq_true rfl, Nat.le_of_ble_eq_true rfl, cal_93⟩, rfl, gw_1013, gw_92, gw_93, _, rfl, rfl⟩) <| 
  mA0 rfl <| 
  mA0 rfl <| 
  mA0 rfl <| 
  mA0 rfl <| 
  mA1 rfl (⟨_, rfl, Nat.le_of_ble_eq_true rfl, gw_278, rfl⟩) <| 
  mA0 rfl <| 
  mA0 rfl <| 
  mA0 rfl <| 
  mA1 rfl (⟨⟨Nat.le_of_ble_eq_true rfl, Nat.le_of_ble_eq_true rfl, Nat.le_of_ble_eq_true rfl, cal_95⟩, rfl, gw_1014, gw_96, gw_97, _, rfl, rfl⟩) <| 
  mA0 rfl <| 
  mA0 rfl <| 
  mA0 rfl <| 
  mA0 rfl <| 
  mA0 rfl <| 
  mA1 rfl (⟨_, rfl, Nat.le_of_ble_eq_true rfl, gw_278, rfl⟩) <| 
  mA0 rfl <| 
  mA0 rfl <| 
  mA1 rfl (⟨⟨Nat.le_of_ble_eq_true rfl, Nat.le_of_ble_eq_true rfl, Nat.le_of_ble_eq_true rfl, cal_98⟩, rfl, gw_1015, gw_846, gw_847, _, rfl, rfl⟩) <| 
  mA1 rfl (rfl) <| trivial

theorem mc_66 : mAllP 66 mt_66 :=
  mA0 rfl <| 
  mA0 rfl <| 
  mA0 rfl <| 
  mA1 rfl (⟨_, rfl, Nat.le_of_ble_eq_true rfl, gw_279, rfl⟩) <| 
  mA1 rfl (⟨⟨Nat.le_of_ble_eq_true rfl, Nat.le_of_ble_eq_true rfl, Nat.le_of_ble_eq_true rfl, cal_100⟩, rfl, gw_1123, gw_88, gw_89, _, rfl, rfl⟩) <| 
  mA0 rfl <| 
  mA0 rfl <| 
  mA0 rfl <| 
  mA0 rfl <| 
  mA1 rfl (⟨_, rfl, Nat.le_of_ble_eq_true rfl, gw_278, rfl⟩) <| 
  mA1 rfl (⟨⟨Nat.le_of_ble_eq_true rfl, Nat.le_of_ble_eq_true rfl, Nat.le_of_ble_eq_true rfl, cal_93⟩, rfl, gw_1013, gw_92, gw_93, _, rfl, rfl⟩) <| 
  mA0 rfl <| 
  mA0 rfl <| 
  mA0 rfl <| 
  mA1 rfl (⟨_, rfl, Nat.le_of_ble_eq_true rfl, gw_278, rfl⟩) <| 
  mA0 rfl <| 
  mA1 rfl (⟨⟨Nat.le_of_ble_eq_true rfl, Nat.le_of_ble_eq_true rfl, Nat.le_of_ble_eq_true rfl, cal_95⟩, rfl, gw_1014, gw_96, gw_97, _, rfl, rfl⟩) <| 
  mA1 rfl (⟨⟨Nat.le_of_ble_eq_true rfl, Nat.le_of_ble_eq_true rfl, Nat.le_of_ble_eq_true rfl, cal_62⟩, gw_1125, Or.inl gw_1124⟩) <| 
  mA1 rfl (⟨⟨Nat.le_of_ble_eq_true rfl, Nat.le_of_ble_eq_true rfl, Nat.le_of_ble_eq_true rfl, cal_91⟩, rfl, gw_1127, gw_1128, gw_1129, _, rfl, rfl⟩) <| 
  mA0 rfl <| 
  mA0 rfl <| 
  mA0 rfl <| 
  mA1 rfl (⟨_, rfl, Nat.le_of_ble_eq_true rfl, gw_278, rfl⟩) <| 
  mA0 rfl <| 
  mA1 rfl (⟨⟨Nat.le_of_ble_eq_true rfl, Nat.le_of_ble_eq_true rfl, Nat.le_of_ble_eq_true rfl, cal_95⟩, rfl, gw_1014, gw_96, gw_97, _, rfl, rfl⟩) <| 
  mA1 rfl (⟨⟨Nat.le_of_ble_eq_true rfl, Nat.le_of_ble_eq_true rfl, Nat.le_of_ble_eq_true rfl, cal_63⟩, gw_1132, Or.inl gw_1131⟩) <| 
  mA1 rfl (⟨⟨Nat.le_of_ble_eq_true rfl, Nat.le_of_ble_eq_true rfl, Nat.le_of_ble_eq_true rfl, cal_61⟩, gw_1002, Or.inl gw_1001⟩) <| 
  mA0 rfl <| 
  mA0 rfl <| 
  mA0 rfl <| 
  mA0 rfl <| 
  mA0 rfl <| 
  mA0 rfl <| 
  mA0 rfl <| 
  mA1 rfl (⟨_, rfl, Nat.le_of_ble_eq_true rfl, gw_279, rfl⟩) <| 
  mA0 rfl <| 
  mA1 rfl (⟨⟨Nat.le_of_ble_eq_true rfl, Nat.le_of_ble_eq_true rfl, Nat.le_of_ble_eq_true rfl, cal_104⟩, rfl, gw_1007, gw_656, gw_657, _, rfl, rfl⟩) <| 
  mA0 rfl <| 
  mA0 rfl <| 
  mA1 rfl (⟨_, rfl, Nat.le_of_ble_eq_true rfl, gw_279, rfl⟩) <| 
  mA0 rfl <| 
  mA1 rfl (⟨⟨Nat.le_of_ble_eq_true rfl, Nat.le_of_ble_eq_true rfl, Nat.le_of_ble_eq_true rfl, cal_97⟩, rfl, gw_1134, gw_80, gw_81, _, rfl, rfl⟩) <| 
  mA0 rfl <| 
  mA0 rfl <| 
  mA0 rfl <| 
  mA1 rfl (⟨_, rfl, Nat.le_of_ble_eq_true rfl, gw_278, rfl⟩) <| 
  mA0 rfl <| 
  mA1 rfl (⟨_, rfl, Nat.le_of_ble_eq_true rfl, gw_279, rfl⟩) <| 
  mA1 rfl (⟨⟨Nat.le_of_ble_eq_true rfl, Nat.le_of_ble_eq_true rfl, Nat.le_of_ble_eq_true rfl, cal_102⟩, rfl, gw_1135, gw_858, gw_859, _, rfl, rfl⟩) <| 
  mA0 rfl <| 
  mA1 rfl (Or.inl ⟨rfl, rfl⟩) <| trivial

theorem mc_67 : mAllP 67 mt_67 :=
  mA0 rfl <| 
  mA1 rfl (⟨_, rfl, Nat.le_of_ble_eq_true rfl, gw_280, rfl⟩) <| 
  mA1 rfl (Or.inl ⟨rfl, rfl⟩) <| trivial

theorem mc_68 : mAllP 68 mt_68 :=
  mA0 rfl <| 
  mA1 rfl (⟨_, rfl, Nat.le_of_ble_eq_true rfl, gw_281, rfl⟩) <| 
  mA0 rfl <| 
  mA0 rfl <| 
  mA0 rfl <| 
  mA0 rfl <| 
  mA0 rfl <| 
  mA0 rfl <| 
  mA0 rfl <| 
  mA0 rfl <| 
  mA0 rfl <| 
  mA1 rfl (Or.inr ⟨by decide, rfl⟩) <| trivial

theorem mc_69 : mAllP 69 mt_69 :=
  mA0 rfl <| 
  mA1 rfl (⟨_, rfl, Nat.le_of_ble_eq_true rfl, gw_281, rfl⟩) <| 
  mA1 rfl (⟨⟨Nat.le_of_ble_eq_true rfl, Nat.le_of_ble_eq_true rfl, Nat.le_of_ble_eq_true rfl, cal_328⟩, gw_1386, Or.inl gw_1385⟩) <| 
  mA1 rfl (Or.inl ⟨rfl, rfl⟩) <| trivial

theorem mc_70 : mAllP 70 mt_70 :=
  mA0 rfl <| 
  mA0 rfl <| 
  mA0 rfl <| 
  mA0 rfl <| 
  mA1 rfl (⟨_, rfl, Nat.le_of_ble_eq_true rfl, gw_281, rfl⟩) <| 
  mA0 rfl <| 
  mA0 rfl <| 
  mA0 rfl <| 
  mA0 rfl <| 
  mA1 rfl (⟨_, rfl, Nat.le_of_ble_eq_true rfl, gw_281, rfl, Or.inl rfl⟩) <| 
  mA0 rfl <| 
  mA0 rfl <| 
  mA0 rfl <| 
  mA1 rfl (⟨_, rfl, Nat.le_of_ble_eq_true rfl, gw_280, rfl, Or.inl rfl⟩) <| 
  mA1 rfl (rfl) <| trivial

theorem mc_71 : mAllP 71 mt_71 :=
  mA0 rfl <| 
  mA1 rfl (⟨gw_233, gw_27, gw_28, Nat.le_of_ble_eq_true rfl, Nat.le_of_ble_eq_true rfl⟩) <| 
  mA0 rfl <| 
  mA1 rfl (⟨_, rfl, gw_234, gw_47, gw_3⟩) <| 
  mA0 rfl <| 
  mA0 rfl <| 
  mA1 rfl (⟨⟨Nat.le_of_ble_eq_true rfl, Nat.le_of_ble_eq_true rfl, Nat.le_of_ble_eq_true rfl, cal_92⟩, rfl, rfl, (fun E => ⟨(100000, 0), rfl, mNone _⟩), gw_49, rfl, Or.inl gw_235⟩) <| 
  mA1 rfl (⟨_, rfl, Nat.le_of_ble_eq_true rfl, gw_236, rfl, Or.inr ⟨rfl, ini_71, rfl⟩⟩) <| 
  mA0 rfl <| 
  mA1 rfl (⟨_, rfl, gw_234, gw_47, gw_3⟩) <| 
  mA0 rfl <| 
  mA0 rfl <| 
  mA1 rfl (⟨⟨Nat.le_of_ble_eq_true rfl, Nat.le_of_ble_eq_true rfl, Nat.le_of_ble_eq_true rfl, cal_92⟩, rfl, rfl, (fun E => ⟨(100000, 0), rfl, mNone _⟩), gw_49, rfl, Or.inl gw_235⟩) <| 
  mA1 rfl (⟨_, rfl, Nat.le_of_ble_eq_true rfl, gw_237, rfl, Or.inr ⟨rfl, ini_71, rfl⟩⟩) <| 
  mA0 rfl <| 
  mA1 rfl (⟨_, rfl, gw_234, gw_47, gw_3⟩) <| 
  mA0 rfl <| 
  mA0 rfl <| 
  mA1 rfl (⟨⟨Nat.le_of_ble_eq_true rfl, Nat.le_of_ble_eq_true rfl, Nat.le_of_ble_eq_true rfl, cal_92⟩, rfl, rfl, (fun E => ⟨(100000, 0), rfl, mNone _⟩), gw_49, rfl, Or.inl gw_235⟩) <| 
  mA1 rfl (⟨_, rfl, Nat.le_of_ble_eq_true rfl, gw_238, rfl, Or.inr ⟨rfl, ini_71, rfl⟩⟩) <| 
  mA1 rfl (rfl) <| trivial

theorem mc_72 : mAllP 72 mt_72 :=
  mA0 rfl <| 
  mA1 rfl (⟨_, rfl, Nat.le_of_ble_eq_true rfl, gw_236, rfl⟩) <| 
  mA1 rfl (⟨⟨Nat.le_of_ble_eq_true rfl, Nat.le_of_ble_eq_true rfl, Nat.le_of_ble_eq_true rfl, cal_93⟩, rfl, gw_1323, gw_92, gw_93, _, rfl, rfl⟩) <| 
  mA1 rfl (Or.inl ⟨rfl, rfl⟩) <| trivial

theorem mc_73 : mAllP 73 mt_73 :=
  mA0 rfl <| 
  mA0 rfl <| 
  mA0 rfl <| 
  mA0 rfl <| 
  mA1 rfl (⟨_, rfl, Nat.le_of_ble_eq_true rfl, gw_236, rfl⟩) <| 
  mA1 rfl (⟨⟨Nat.le_of_ble_eq_true rfl, Nat.le_of_ble_eq_true rfl, Nat.le_of_ble_eq_true rfl, cal_93⟩, rfl, gw_1323, gw_92, gw_93, _, rfl, rfl⟩) <| 
  mA0 rfl <| 
  mA0 rfl <| 
  mA1 rfl (Or.inl ⟨rfl, rfl⟩) <| 
  mA1 rfl (gw_1342) <| 
  mA0 rfl <| 
  mA1 rfl (⟨_, rfl, Nat.le_of_ble_eq_true rfl, gw_236, rfl⟩) <| 
  mA0 rfl <| 
  mA1 rfl (⟨⟨Nat.le_of_ble_eq_true rfl, Nat.le_of_ble_eq_true rfl, Nat.le_of_ble_eq_true rfl, cal_95⟩, rfl, gw_1324, gw_96, gw_97, _, rfl, rfl⟩) <| 
  mA0 rfl <| 
  mA0 rfl <| 
  mA0 rfl <| 
  mA1 rfl (⟨_, rfl, Nat.le_of_ble_eq_true rfl, gw_237, rfl⟩) <| 
  mA0 rfl <| 
  mA1 rfl (⟨⟨Nat.le_of_ble_eq_true rfl, Nat.le_of_ble_eq_true rfl, Nat.le_of_ble_eq_true rfl, cal_95⟩, rfl, gw_1324, gw_96, gw_97, _, rfl, rfl⟩) <| 
  mA0 rfl <| 
  mA0 rfl <| 
  mA0 rfl <| 
  mA1 rfl (⟨_, rfl, Nat.le_of_ble_eq_true rfl, gw_238, rfl⟩) <| 
  mA0 rfl <| 
  mA1 rfl (⟨⟨Nat.le_of_ble_eq_true rfl, Nat.le_of_ble_eq_true rfl, Nat.le_of_ble_eq_true rfl, cal_95⟩, rfl, gw_1324, gw_96, gw_97, _, rfl, rfl⟩) <| 
  mA0 rfl <| 
  mA1 rfl (Or.inl ⟨rfl, rfl⟩) <| trivial

theorem mc_74 : mAllP 74 mt_74 :=
  mA0 rfl <| 
  mA1 rfl (⟨_, rfl, Nat.le_of_ble_eq_true rfl, gw_236, rfl⟩) <| 
  mA1 rfl (⟨⟨Nat.le_of_ble_eq_true rfl, Nat.le_of_ble_eq_true rfl, Nat.le_of_ble_eq_true rfl, cal_100⟩, rfl, gw_1322, gw_88, gw_89, _, rfl, rfl⟩) <| 
  mA0 rfl <| 
  mA1 rfl (⟨_, rfl, Nat.le_of_ble_eq_true rfl, gw_237, rfl⟩) <| 
  mA1 rfl (⟨⟨Nat.le_of_ble_eq_true rfl, Nat.le_of_ble_eq_true rfl, Nat.le_of_ble_eq_true rfl, cal_100⟩, rfl, gw_1322, gw_88, gw_89, _, rfl, rfl⟩) <| 
  mA0 rfl <| 
  mA1 rfl (⟨_, rfl, Nat.le_of_ble_eq_true rfl, gw_238, rfl⟩) <| 
  mA1 rfl (⟨⟨Nat.le_of_ble_eq_true rfl, Nat.le_of_ble_eq_true rfl, Nat.le_of_ble_eq_true rfl, cal_100⟩, rfl, gw_1322, gw_88, gw_89, _, rfl, rfl⟩) <| 
  mA0 rfl <| 
  mA0 rfl <| 
  mA0 rfl <| 
  mA0 rfl <| 
  mA1 rfl (⟨⟨Nat.le_of_ble_eq_true rfl, Nat.le_of_ble_eq_true rfl, Nat.le_of_ble_eq_true rfl, cal_93⟩, rfl, gw_1323, gw_92, gw_93, _, rfl, rfl⟩) <| 
  mA0 rfl <| 
  mA0 rfl <| 
  mA0 rfl <| 
  mA0 rfl <| 
  mA1 rfl (⟨⟨Nat.le_of_ble_eq_true rfl, Nat.le_of_ble_eq_true rfl, Nat.le_of_ble_eq_true rfl, cal_95⟩, rfl, gw_1324, gw_96, gw_97, _, rfl, rfl⟩) <| 
  mA1 rfl (⟨⟨Nat.le_of_ble_eq_true rfl, Nat.le_of_ble_eq_true rfl, Nat.le_of_ble_eq_true rfl, cal_63⟩, gw_1132, Or.inl gw_1325⟩) <| 
  mA0 rfl <| 
  mA0 rfl <| 
  mA1 rfl (⟨⟨Nat.le_of_ble_eq_true rfl, Nat.le_of_ble_eq_true rfl, Nat.le_of_ble_eq_true rfl, cal_95⟩, rfl, gw_1324, gw_96, gw_97, _, rfl, rfl⟩) <| 
  mA1 rfl (⟨⟨Nat.le_of_ble_eq_true rfl, Nat.le_of_ble_eq_true rfl, Nat.le_of_ble_eq_true rfl, cal_62⟩, gw_1125, Or.inl gw_1326⟩) <| 
  mA1 rfl (⟨⟨Nat.le_of_ble_eq_true rfl, Nat.le_of_ble_eq_true rfl, Nat.le_of_ble_eq_true rfl, cal_75⟩, rfl, gw_1327, gw_1329, gs_75, _, rfl, rfl⟩) <| 
  mA0 rfl <| 
  mA0 rfl <| 
  mA0 rfl <| 
  mA0 rfl <| 
  mA0 rfl <| 
  mA0 rfl <| 
  mA1 rfl (⟨_, rfl, Nat.le_of_ble_eq_true rfl, gw_236, rfl⟩) <| 
  mA1 rfl (⟨⟨Nat.le_of_ble_eq_true rfl, Nat.le_of_ble_eq_true rfl, Nat.le_of_ble_eq_true rfl, cal_93⟩, rfl, gw_1323, gw_92, gw_93, _, rfl, rfl⟩) <| 
  mA0 rfl <| 
  mA0 rfl <| 
  mA0 rfl <| 
  mA1 rfl (⟨⟨Nat.le_of_ble_eq_true rfl, Nat.le_of_ble_eq_true rfl, Nat.le_of_ble_eq_true rfl, cal_76⟩, rfl, gw_1333, gw_1335, gs_76, _, rfl, rfl⟩) <| 
  mA0 rfl <| 
  mA0 rfl <| 
  mA1 rfl (rfl) <| trivial

theorem mc_75 : mAllP 75 mt_75 :=
  mA0 rfl <| 
  mA1 rfl (⟨_, rfl, Nat.le_of_ble_eq_true rfl, gw_236, rfl⟩) <| 
  mA1 rfl (⟨⟨Nat.le_of_ble_eq_true rfl, Nat.le_of_ble_eq_true rfl, Nat.le_of_ble_eq_true rfl, cal_93⟩, rfl, gw_1323, gw_92, gw_93, _, rfl, rfl⟩) <| 
  mA0 rfl <| 
  mA0 rfl <| 
  mA0 rfl <| 
  mA0 rfl <| 
  mA1 rfl (⟨_, rfl, Nat.le_of_ble_eq_true rfl, gw_236, rfl⟩) <| 
  mA0 rfl <| 
  mA1 rfl (⟨⟨Nat.le_of_ble_eq_true rfl, Nat.le_of_ble_eq_true rfl, Nat.le_of_ble_eq_true rfl, cal_95⟩, rfl, gw_1324, gw_96, gw_97, _, rfl, rfl⟩) <| 
  mA0 rfl <| 
  mA0 rfl <| 
  mA0 rfl <| 
  mA1 rfl (⟨_, rfl, Nat.le_of_ble_eq_true rfl, gw_238, rfl⟩) <| 
  mA0 rfl <| 
  mA1 rfl (⟨⟨Nat.le_of_ble_eq_true rfl, Nat.le_of_ble_eq_true rfl, Nat.le_of_ble_eq_true rfl, cal_95⟩, rfl, gw_1324, gw_96, gw_97, _, rfl, rfl⟩) <| 
  mA0 rfl <| 
  mA0 rfl <| 
  mA0 rfl <| 
  mA0 rfl <| 
  mA0 rfl <| 
  mA1 rfl (⟨_, rfl, Nat.le_of_ble_eq_true rfl, gw_238, rfl⟩) <| 
  mA0 rfl <| 
  mA0 rfl <| 
  mA1 rfl (⟨⟨Nat.le_of_ble_eq_true rfl, Nat.le_of_ble_eq_true rfl, Nat.le_of_ble_eq_true rfl, cal_96⟩, rfl, gw_1331, gw_592, gw_593, _, rfl, rfl⟩) <| 
  mA1 rfl (rfl) <| 
  mA0 rfl <| 
  mA1 rfl (⟨_, rfl, Nat.le_of_ble_eq_true rfl, gw_236, rfl⟩) <| 
  mA0 rfl <| 
  mA1 rfl (⟨⟨Nat.le_of_ble_eq_true rfl, Nat.le_of_ble_eq_true rfl, Nat.le_of_ble_eq_true rfl, cal_97⟩, rfl, gw_1332, gw_80, gw_81, _, rfl, rfl⟩) <| 
  mA0 rfl <| 
  mA1 rfl (⟨_, rfl, Nat.le_of_ble_eq_true rfl, gw_237, rfl⟩) <| 
  mA0 rfl <| 
  mA1 rfl (⟨⟨Nat.le_of_ble_eq_true rfl, Nat.le_of_ble_eq_true rfl, Nat.le_of_ble_eq_true rfl, cal_97⟩, rfl, gw_1332, gw_80, gw_81, _, rfl, rfl⟩) <| 
  mA0 rfl <| 
  mA1 rfl (⟨_, rfl, Nat.le_of_ble_eq_true rfl, gw_238, rfl⟩) <| 
  mA0 rfl <| 
  mA1 rfl (⟨⟨Nat.le_of_ble_eq_true rfl, Nat.le_of_ble_eq_true rfl, Nat.le_of_ble_eq_true rfl, cal_97⟩, rfl, gw_1332, gw_80, gw_81, _, rfl, rfl⟩) <| 
  mA1 rfl (rfl) <| trivial

theorem mc_76 : mAllP 76 mt_76 :=
  mA0 rfl <| 
  mA0 rfl <| 
  mA0 rfl <| 
  mA0 rfl <| 
  mA1 rfl (⟨_, rfl, Nat.le_of_ble_eq_true rfl, gw_236, rfl⟩) <| 
  mA1 rfl (⟨⟨Nat.le_of_ble_eq_true rfl, Nat.le_of_ble_eq_true rfl, Nat.le_of_ble_eq_true rfl, cal_93⟩, rfl, gw_1323, gw_92, gw_93, _, rfl, rfl⟩) <| 
  mA0 rfl <| 
  mA0 rfl <| 
  mA1 rfl (⟨_, rfl, Nat.le_of_ble_eq_true rfl, gw_236, rfl⟩) <| 
  mA0 rfl <| 
  mA1 rfl (⟨⟨Nat.le_of_ble_eq_true rfl, Nat.le_of_ble_eq_true rfl, Nat.le_of_ble_eq_true rfl, cal_95⟩, rfl, gw_1324, gw_96, gw_97, _, rfl, rfl⟩) <| 
  mA0 rfl <| 
  mA0 rfl <| 
  mA1 rfl (⟨_, rfl, Nat.le_of_ble_eq_true rfl, gw_237, rfl⟩) <| 
  mA0 rfl <| 
  mA1 rfl (⟨⟨Nat.le_of_ble_eq_true rfl, Nat.le_of_ble_eq_true rfl, Nat.le_of_ble_eq_true rfl, cal_95⟩, rfl, gw_1324, gw_96, gw_97, _, rfl, rfl⟩) <| 
  mA0 rfl <| 
  mA1 rfl (⟨_, rfl, Nat.le_of_ble_eq_true rfl, gw_237, rfl⟩) <| 
  mA0 rfl <| 
  mA1 rfl (⟨⟨Nat.le_of_ble_eq_true rfl, Nat.le_of_ble_eq_true rfl, Nat.le_of_ble_eq_true rfl, cal_95⟩, rfl, gw_1324, gw_96, gw_97, _, rfl, rfl⟩) <| 
  mA0 rfl <| 
  mA0 rfl <| 
  mA0 rfl <| 
  mA0 rfl <| 
  mA0 rfl <| 
  mA0 rfl <| 
  mA0 rfl <| 
  mA0 rfl <| 
  mA0 rfl <| 
  mA0 rfl <| 
  mA1 rfl (rfl) <| 
  mA0 rfl <| 
  mA1 rfl (⟨_, rfl, Nat.le_of_ble_eq_true rfl, gw_236, rfl⟩) <| 
  mA0 rfl <| 
  mA0 rfl <| 
  mA1 rfl (⟨⟨Nat.le_of_ble_eq_true rfl, Nat.le_of_ble_eq_true rfl, Nat.le_of_ble_eq_true rfl, cal_96⟩, rfl, gw_1331, gw_592, gw_593, _, rfl, rfl⟩) <| 
  mA0 rfl <| 
  mA1 rfl (⟨_, rfl, Nat.le_of_ble_eq_true rfl, gw_238, rfl⟩) <| 
  mA0 rfl <| 
  mA0 rfl <| 
  mA1 rfl (⟨_, rfl, Nat.le_of_ble_eq_true rfl, gw_238, rfl⟩) <| 
  mA0 rfl <| 
  mA0 rfl <| 
  mA0 rfl <| 
  mA1 rfl (⟨⟨Nat.le_of_ble_eq_true rfl, Nat.le_of_ble_eq_true rfl, Nat.le_of_ble_eq_true rfl, cal_95⟩, rfl, gw_1324, gw_96, gw_97, _, rfl, rfl⟩) <| 
  mA1 rfl (⟨⟨Nat.le_of_ble_eq_true rfl, Nat.le_of_ble_eq_true rfl, Nat.le_of_ble_eq_true rfl, cal_96⟩, rfl, gw_1331, gw_592, gw_593, _, rfl, rfl⟩) <| 
  mA0 rfl <| 
  mA0 rfl <| 
  mA0 rfl <| 
  mA0 rfl <| 
  mA0 rfl <| 
  mA0 rfl <| 
  mA0 rfl <| 
  mA0 rfl <| 
  mA1 rfl (⟨_, rfl, Nat.le_of_ble_eq_true rfl, gw_236, rfl⟩) <| 
  mA0 rfl <| 
  mA1 rfl (⟨⟨Nat.le_of_ble_eq_true rfl, Nat.le_of_ble_eq_true rfl, Nat.le_of_ble_eq_true rfl, cal_99⟩, rfl, gw_1337, gw_874, gw_875, _, rfl, rfl⟩) <| 
  mA0 rfl <| 
  mA1 rfl (⟨_, rfl, Nat.le_of_ble_eq_true rfl, gw_237, rfl⟩) <| 
  mA0 rfl <| 
  mA1 rfl (⟨⟨Nat.le_of_ble_eq_true rfl, Nat.le_of_ble_eq_true rfl, Nat.le_of_ble_eq_true rfl, cal_99⟩, rfl, gw_1337, gw_874, gw_875, _, rfl, rfl⟩) <| 
  mA0 rfl <| 
  mA1 rfl (⟨_, rfl, Nat.le_of_ble_eq_true rfl, gw_238, rfl⟩) <| 
  mA0 rfl <| 
  mA1 rfl (⟨⟨Nat.le_of_ble_eq_true rfl, Nat.le_of_ble_eq_true rfl, Nat.le_of_ble_eq_true rfl, cal_99⟩, rfl, gw_1337, gw_874, gw_875, _, rfl, rfl⟩) <| 
  mA0 rfl <| 
  mA0 rfl <| 
  mA1 rfl (rfl) <| trivial

theorem mc_77 : mAllP 77 mt_77 :=
  mA0 rfl <| 
  mA1 rfl (⟨gw_250, gw_27, gw_28, Nat.le_of_ble_eq_true rfl, Nat.le_of_ble_eq_true rfl⟩) <| 
  mA0 rfl <| 
  mA1 rfl (⟨_, rfl, gw_251, gw_47, gw_3⟩) <| 
  mA0 rfl <| 
  mA0 rfl <| 
  mA1 rfl (⟨⟨Nat.le_of_ble_eq_true rfl, Nat.le_of_ble_eq_true rfl, Nat.le_of_ble_eq_true rfl, cal_92⟩, rfl, rfl, (fun E => ⟨(100000, 0), rfl, mNone _⟩), gw_49, rfl, Or.inl gw_252⟩) <| 
  mA1 rfl (⟨_, rfl, Nat.le_of_ble_eq_true rfl, gw_253, rfl, Or.inr ⟨rfl, ini_77, rfl⟩⟩) <| 
  mA0 rfl <| 
  mA1 rfl (⟨_, rfl, gw_251, gw_47, gw_3⟩) <| 
  mA0 rfl <| 
  mA0 rfl <| 
  mA1 rfl (⟨⟨Nat.le_of_ble_eq_true rfl, Nat.le_of_ble_eq_true rfl, Nat.le_of_ble_eq_true rfl, cal_92⟩, rfl, rfl, (fun E => ⟨(100000, 0), rfl, mNone _⟩), gw_49, rfl, Or.inl gw_252⟩) <| 
  mA1 rfl (⟨_, rfl, Nat.le_of_ble_eq_true rfl, gw_254, rfl, Or.inr ⟨rfl, ini_77, rfl⟩⟩) <| 
  mA0 rfl <| 
  mA1 rfl (⟨_, rfl, gw_251, gw_47, gw_3⟩) <| 
  mA0 rfl <| 
  mA0 rfl <| 
  mA1 rfl (⟨⟨Nat.le_of_ble_eq_true rfl, Nat.le_of_ble_eq_true rfl, Nat.le_of_ble_eq_true rfl, cal_92⟩, rfl, rfl, (fun E => ⟨(100000, 0), rfl, mNone _⟩), gw_49, rfl, Or.inl gw_252⟩) <| 
  mA1 rfl (⟨_, rfl, Nat.le_of_ble_eq_true rfl, gw_255, rfl, Or.inr ⟨rfl, ini_77, rfl⟩⟩) <| 
  mA1 rfl (rfl) <| trivial

theorem mc_78 : mAllP 78 mt_78 :=
  mA0 rfl <| 
  mA1 rfl (⟨_, rfl, Nat.le_of_ble_eq_true rfl, gw_256, rfl⟩) <| 
  mA1 rfl (Or.inr ⟨by decide, rfl⟩) <| trivial

theorem mc_79 : mAllP 79 mt_79 :=
  mA0 rfl <| 
  mA1 rfl (⟨_, rfl, Nat.le_of_ble_eq_true rfl, gw_253, rfl⟩) <| 
  mA1 rfl (⟨_, rfl⟩) <| trivial

theorem mc_80 : mAllP 80 mt_80 :=
  mA0 rfl <| 
  mA1 rfl (⟨_, rfl, Nat.le_of_ble_eq_true rfl, gw_253, rfl⟩) <| 
  mA1 rfl (⟨⟨Nat.le_of_ble_eq_true rfl, Nat.le_of_ble_eq_true rfl, Nat.le_of_ble_eq_true rfl, cal_100⟩, rfl, gw_688, gw_88, gw_89, _, rfl, rfl⟩) <| 
  mA0 rfl <| 
  mA1 rfl (⟨_, rfl, Nat.le_of_ble_eq_true rfl, gw_254, rfl⟩) <| 
  mA1 rfl (⟨⟨Nat.le_of_ble_eq_true rfl, Nat.le_of_ble_eq_true rfl, Nat.le_of_ble_eq_true rfl, cal_100⟩, rfl, gw_688, gw_88, gw_89, _, rfl, rfl⟩) <| 
  mA0 rfl <| 
  mA0 rfl <| 
  mA1 rfl (⟨_, rfl, Nat.le_of_ble_eq_true rfl, gw_256, rfl, Or.inl rfl⟩) <| 
  mA1 rfl (rfl) <| trivial

theorem mc_81 : mAllP 81 mt_81 :=
  mA0 rfl <| 
  mA1 rfl (⟨_, rfl, Nat.le_of_ble_eq_true rfl, gw_254, rfl⟩) <| 
  mA0 rfl <| 
  mA1 rfl (⟨⟨Nat.le_of_ble_eq_true rfl, Nat.le_of_ble_eq_true rfl, Nat.le_of_ble_eq_true rfl, cal_97⟩, rfl, gw_823, gw_80, gw_81, _, rfl, rfl⟩) <| 
  mA1 rfl (rfl) <| trivial

theorem mc_82 : mAllP 82 mt_82 :=
  mA0 rfl <| 
  mA1 rfl (⟨_, rfl, Nat.le_of_ble_eq_true rfl, gw_254, rfl⟩) <| 
  mA0 rfl <| 
  mA1 rfl (⟨⟨Nat.le_of_ble_eq_true rfl, Nat.le_of_ble_eq_true rfl, Nat.le_of_ble_eq_true rfl, cal_95⟩, rfl, gw_1296, gw_96, gw_97, _, rfl, rfl⟩) <| 
  mA1 rfl (Or.inl ⟨rfl, rfl⟩) <| trivial

theorem mc_83 : mAllP 83 mt_83 :=
  mA0 rfl <| 
  mA0 rfl <| 
  mA1 rfl (⟨_, rfl, Nat.le_of_ble_eq_true rfl, gw_256, rfl, Or.inl rfl⟩) <| 
  mA1 rfl (rfl) <| trivial

theorem mc_84 : mAllP 84 mt_84 :=
  mA0 rfl <| 
  mA1 rfl (⟨_, rfl, Nat.le_of_ble_eq_true rfl, gw_255, rfl⟩) <| 
  mA1 rfl (⟨_, rfl⟩) <| trivial

theorem mc_85 : mAllP 85 mt_85 :=
  mA0 rfl <| 
  mA1 rfl (⟨_, rfl, Nat.le_of_ble_eq_true rfl, gw_255, rfl⟩) <| 
  mA0 rfl <| 
  mA1 rfl (⟨⟨Nat.le_of_ble_eq_true rfl, Nat.le_of_ble_eq_true rfl, Nat.le_of_ble_eq_true rfl, cal_102⟩, rfl, gw_857, gw_858, gw_859, _, rfl, rfl⟩) <| 
  mA0 rfl <| 
  mA0 rfl <| 
  mA1 rfl (⟨_, rfl, Nat.le_of_ble_eq_true rfl, gw_256, rfl, Or.inl rfl⟩) <| 
  mA1 rfl (rfl) <| trivial

theorem mc_86 : mAllP 86 mt_86 :=
  mA0 rfl <| 
  mA1 rfl (⟨gw_161, gw_27, gw_28, Nat.le_of_ble_eq_true rfl, Nat.le_of_ble_eq_true rfl⟩) <| 
  mA0 rfl <| 
  mA1 rfl (⟨_, rfl, gw_162, gw_47, gw_3⟩) <| 
  mA0 rfl <| 
  mA0 rfl <| 
  mA1 rfl (⟨⟨Nat.le_of_ble_eq_true rfl, Nat.le_of_ble_eq_true rfl, Nat.le_of_ble_eq_true rfl, cal_92⟩, rfl, rfl, (fun E => ⟨(100000, 0), rfl, mNone _⟩), gw_49, rfl, Or.inl gw_163⟩) <| 
  mA1 rfl (⟨_, rfl, Nat.le_of_ble_eq_true rfl, gw_164, rfl, Or.inr ⟨rfl, ini_86, rfl⟩⟩) <| 
  mA0 rfl <| 
  mA1 rfl (⟨_, rfl, gw_162, gw_47, gw_3⟩) <| 
  mA0 rfl <| 
  mA0 rfl <| 
  mA1 rfl (⟨⟨Nat.le_of_ble_eq_true rfl, Nat.le_of_ble_eq_true rfl, Nat.le_of_ble_eq_true rfl, cal_92⟩, rfl, rfl, (fun E => ⟨(100000, 0), rfl, mNone _⟩), gw_49, rfl, Or.inl gw_163⟩) <| 
  mA1 rfl (⟨_, rfl, Nat.le_of_ble_eq_true rfl, gw_165, rfl, Or.inr ⟨rfl, ini_86, rfl⟩⟩) <| 
  mA1 rfl (rfl) <| trivial

theorem mc_87 : mAllP 87 mt_87 :=
  mA0 rfl <| 
  mA1 rfl (⟨_, rfl, Nat.le_of_ble_eq_true rfl, gw_164, rfl⟩) <| 
  mA1 rfl (⟨⟨Nat.le_of_ble_eq_true rfl, Nat.le_of_ble_eq_true rfl, Nat.le_of_ble_eq_true rfl, cal_93⟩, rfl, gw_1098, gw_92, gw_93, _, rfl, rfl⟩) <| 
  mA1 rfl (Or.inl ⟨rfl, rfl⟩) <| trivial

theorem mc_88 : mAllP 88 mt_88 :=
  mA0 rfl <| 
  mA0 rfl <| 
  mA1 rfl (⟨_, rfl, Nat.le_of_ble_eq_true rfl, gw_164, rfl⟩) <| 
  mA0 rfl <| 
  mA1 rfl (⟨_, rfl, Nat.le_of_ble_eq_true rfl, gw_164, rfl⟩) <| 
  mA1 rfl (⟨⟨Nat.le_of_ble_eq_true rfl, Nat.le_of_ble_eq_true rfl, Nat.le_of_ble_eq_true rfl, cal_93⟩, rfl, gw_1098, gw_92, gw_93, _, rfl, rfl⟩) <| 
  mA0 rfl <| 
  mA0 rfl <| 
  mA1 rfl (⟨⟨Nat.le_of_ble_eq_true rfl, Nat.le_of_ble_eq_true rfl, Nat.le_of_ble_eq_true rfl, cal_95⟩, rfl, gw_1099, gw_96, gw_97, _, rfl, rfl⟩) <| 
  mA0 rfl <| 
  mA0 rfl <| 
  mA0 rfl <| 
  mA1 rfl (⟨_, rfl, Nat.le_of_ble_eq_true rfl, gw_165, rfl⟩) <| 
  mA0 rfl <| 
  mA1 rfl (⟨_, rfl, Nat.le_of_ble_eq_true rfl, gw_165, rfl⟩) <| 
  mA1 rfl (⟨⟨Nat.le_of_ble_eq_true rfl, Nat.le_of_ble_eq_true rfl, Nat.le_of_ble_eq_true rfl, cal_93⟩, rfl, gw_1098, gw_92, gw_93, _, rfl, rfl⟩) <| 
  mA0 rfl <| 
  mA0 rfl <| 
  mA1 rfl (⟨⟨Nat.le_of_ble_eq_true rfl, Nat.le_of_ble_eq_true rfl, Nat.le_of_ble_eq_true rfl, cal_95⟩, rfl, gw_1099, gw_96, gw_97, _, rfl, rfl⟩) <| 
  mA0 rfl <| 
  mA0 rfl <| 
  mA0 rfl <| 
  mA0 rfl <| 
  mA1 rfl (Or.inr ⟨by decide, rfl⟩) <| trivial

theorem mc_89 : mAllP 89 mt_89 :=
  mA0 rfl <| 
  mA1 rfl (⟨_, rfl, Nat.le_of_ble_eq_true rfl, gw_164, rfl⟩) <| 
  mA0 rfl <| 
  mA1 rfl (⟨⟨Nat.le_of_ble_eq_true rfl, Nat.le_of_ble_eq_true rfl, Nat.le_of_ble_eq_true rfl, cal_97⟩, rfl, gw_1110, gw_80, gw_81, _, rfl, rfl⟩) <| 
  mA0 rfl <| 
  mA1 rfl (⟨_, rfl, Nat.le_of_ble_eq_true rfl, gw_165, rfl⟩) <| 
  mA0 rfl <| 
  mA1 rfl (⟨⟨Nat.le_of_ble_eq_true rfl, Nat.le_of_ble_eq_true rfl, Nat.le_of_ble_eq_true rfl, cal_97⟩, rfl, gw_1110, gw_80, gw_81, _, rfl, rfl⟩) <| 
  mA1 rfl (rfl) <| trivial

theorem mc_90 : mAllP 90 mt_90 :=
  mA0 rfl <| 
  mA1 rfl (⟨_, rfl, Nat.le_of_ble_eq_true rfl, gw_164, rfl⟩) <| 
  mA1 rfl (⟨⟨Nat.le_of_ble_eq_true rfl, Nat.le_of_ble_eq_true rfl, Nat.le_of_ble_eq_true rfl, cal_100⟩, rfl, gw_1140, gw_88, gw_89, _, rfl, rfl⟩) <| 
  mA0 rfl <| 
  mA1 rfl (⟨_, rfl, Nat.le_of_ble_eq_true rfl, gw_165, rfl⟩) <| 
  mA1 rfl (⟨⟨Nat.le_of_ble_eq_true rfl, Nat.le_of_ble_eq_true rfl, Nat.le_of_ble_eq_true rfl, cal_100⟩, rfl, gw_1140, gw_88, gw_89, _, rfl, rfl⟩) <| 
  mA1 rfl (rfl) <| trivial

theorem mc_91 : mAllP 91 mt_91 :=
  mA0 rfl <| 
  mA0 rfl <| 
  mA0 rfl <| 
  mA0 rfl <| 
  mA0 rfl <| 
  mA0 rfl <| 
  mA1 rfl (⟨_, rfl, Nat.le_of_ble_eq_true rfl, gw_164, rfl⟩) <| 
  mA1 rfl (⟨⟨Nat.le_of_ble_eq_true rfl, Nat.le_of_ble_eq_true rfl, Nat.le_of_ble_eq_true rfl, cal_93⟩, rfl, gw_1098, gw_92, gw_93, _, rfl, rfl⟩) <| 
  mA0 rfl <| 
  mA0 rfl <| 
  mA1 rfl (⟨_, rfl, Nat.le_of_ble_eq_true rfl, gw_164, rfl⟩) <| 
  mA0 rfl <| 
  mA1 rfl (⟨⟨Nat.le_of_ble_eq_true rfl, Nat.le_of_ble_eq_true rfl, Nat.le_of_ble_eq_true rfl, cal_95⟩, rfl, gw_1099, gw_96, gw_97, _, rfl, rfl⟩) <| 
  mA0 rfl <| 
  mA0 rfl <| 
  mA0 rfl <| 
  mA0 rfl <| 
  mA0 rfl <| 
  mA0 rfl <| 
  mA0 rfl <| 
  mA0 rfl <| 
  mA0 rfl <| 
  mA0 rfl <| 
  mA1 rfl (⟨_, rfl, Nat.le_of_ble_eq_true rfl, gw_164, rfl⟩) <| 
  mA0 rfl <| 
  mA1 rfl (⟨⟨Nat.le_of_ble_eq_true rfl, Nat.le_of_ble_eq_true rfl, Nat.le_of_ble_eq_true rfl, cal_95⟩, rfl, gw_1099, gw_96, gw_97, _, rfl, rfl⟩) <| 
  mA0 rfl <| 
  mA0 rfl <| 
  mA0 rfl <| 
  mA0 rfl <| 
  mA0 rfl <| 
  mA0 rfl <| 
  mA0 rfl <| 
  mA0 rfl <| 
  mA1 rfl (⟨_, rfl, Nat.le_of_ble_eq_true rfl, gw_165, rfl⟩) <| 
  mA0 rfl <| 
  mA1 rfl (⟨⟨Nat.le_of_ble_eq_true rfl, Nat.le_of_ble_eq_true rfl, Nat.le_of_ble_eq_true rfl, cal_95⟩, rfl, gw_1099, gw_96, gw_97, _, rfl, rfl⟩) <| 
  mA1 rfl (Or.inl ⟨rfl, rfl⟩) <| 
  mA0 rfl <| 
  mA1 rfl (⟨_, rfl, Nat.le_of_ble_eq_true rfl, gw_164, rfl⟩) <| 
  mA0 rfl <| 
  mA0 rfl <| 
  mA0 rfl <| 
  mA1 rfl (⟨⟨Nat.le_of_ble_eq_true rfl, Nat.le_of_ble_eq_true rfl, Nat.le_of_ble_eq_true rfl, cal_95⟩, rfl, gw_1099, gw_96, gw_97, _, rfl, rfl⟩) <| 
  mA0 rfl <| 
  mA1 rfl (⟨_, rfl, Nat.le_of_ble_eq_true rfl, gw_164, rfl⟩) <| 
  mA0 rfl <| 
  mA1 rfl (⟨⟨Nat.le_of_ble_eq_true rfl, Nat.le_of_ble_eq_true rfl, Nat.le_of_ble_eq_true rfl, cal_95⟩, rfl, gw_1099, gw_96, gw_97, _, rfl, rfl⟩) <| 
  mA0 rfl <| 
  mA0 rfl <| 
  mA0 rfl <| 
  mA1 rfl (⟨_, rfl, Nat.le_of_ble_eq_true rfl, gw_165, rfl⟩) <| 
  mA0 rfl <| 
  mA0 rfl <| 
  mA0 rfl <| 
  mA1 rfl (⟨⟨Nat.le_of_ble_eq_true rfl, Nat.le_of_ble_eq_true rfl, Nat.le_of_ble_eq_true rfl, cal_95⟩, rfl, gw_1099, gw_96, gw_97, _, rfl, rfl⟩) <| 
  mA0 rfl <| 
  mA1 rfl (⟨_, rfl, Nat.le_of_ble_eq_true rfl, gw_165, rfl⟩) <| 
  mA0 rfl <| 
  mA1 rfl (⟨⟨Nat.le_of_ble_eq_true rfl, Nat.le_of_ble_eq_true rfl, Nat.le_of_ble_eq_true rfl, cal_95⟩, rfl, gw_1099, gw_96, gw_97, _, rfl, rfl⟩) <| 
  mA0 rfl <| 
  mA0 rfl <| 
  mA0 rfl <| 
  mA0 rfl <| 
  mA0 rfl <| 
  mA1 rfl (⟨_, rfl, Nat.le_of_ble_eq_true rfl, gw_165, rfl⟩) <| 
  mA0 rfl <| 
  mA1 rfl (⟨⟨Nat.le_of_ble_eq_true rfl, Nat.le_of_ble_eq_true rfl, Nat.le_of_ble_eq_true rfl, cal_95⟩, rfl, gw_1099, gw_96, gw_97, _, rfl, rfl⟩) <| 
  mA0 rfl <| 
  mA0 rfl <| 
  mA0 rfl <| 
  mA0 rfl <| 
  mA0 rfl <| 
  mA0 rfl <| 
  mA0 rfl <| 
  mA0 rfl <| 
  mA1 rfl (Or.inl ⟨rfl, rfl⟩) <| trivial

theorem mc_92 : mAllP 92 mt_92 :=
  mA0 rfl <| 
  mA1 rfl (⟨gw_51, gw_27, gw_28, Nat.le_of_ble_eq_true rfl, Nat.le_of_ble_eq_true rfl⟩) <| 
  mA0 rfl <| 
  mA0 rfl <| 
  mA0 rfl <| 
  mA1 rfl (⟨⟨Nat.le_of_ble_eq_true rfl, Nat.le_of_ble_eq_true rfl, Nat.le_of_ble_eq_true rfl, cal_329⟩, gw_53, Or.inl gw_52⟩) <| 
  mA1 rfl (gw_45) <| 
  mA1 rfl (⟨_, rfl, Nat.le_of_ble_eq_true rfl, gw_55, rfl, Or.inr ⟨rfl, ini_92, rfl⟩⟩) <| 
  mA1 rfl (rfl) <| trivial

theorem mc_93 : mAllP 93 mt_93 :=
  mA0 rfl <| 
  mA1 rfl (⟨_, rfl, Nat.le_of_ble_eq_true rfl, gw_56, rfl⟩) <| 
  mA1 rfl (Or.inl ⟨rfl, rfl⟩) <| trivial

theorem mc_94 : mAllP 94 mt_94 :=
  mA0 rfl <| 
  mA1 rfl (⟨_, rfl, Nat.le_of_ble_eq_true rfl, gw_56, rfl⟩) <| 
  mA0 rfl <| 
  mA0 rfl <| 
  mA0 rfl <| 
  mA0 rfl <| 
  mA1 rfl (Or.inr ⟨by decide, rfl⟩) <| trivial

theorem mc_95 : mAllP 95 mt_95 :=
  mA0 rfl <| 
  mA0 rfl <| 
  mA0 rfl <| 
  mA0 rfl <| 
  mA1 rfl (⟨_, rfl, Nat.le_of_ble_eq_true rfl, gw_56, rfl⟩) <| 
  mA0 rfl <| 
  mA0 rfl <| 
  mA1 rfl (⟨_, rfl, Nat.le_of_ble_eq_true rfl, gw_55, rfl⟩) <| 
  mA0 rfl <| 
  mA0 rfl <| 
  mA0 rfl <| 
  mA0 rfl <| 
  mA1 rfl (Or.inl ⟨rfl, rfl⟩) <| trivial

theorem mc_96 : mAllP 96 mt_96 :=
  mA0 rfl <| 
  mA0 rfl <| 
  mA0 rfl <| 
  mA0 rfl <| 
  mA1 rfl (⟨_, rfl, Nat.le_of_ble_eq_true rfl, gw_56, rfl⟩) <| 
  mA0 rfl <| 
  mA0 rfl <| 
  mA1 rfl (⟨_, rfl, Nat.le_of_ble_eq_true rfl, gw_55, rfl⟩) <| 
  mA0 rfl <| 
  mA0 rfl <| 
  mA0 rfl <| 
  mA1 rfl (rfl) <| trivial

theorem mc_97 : mAllP 97 mt_97 :=
  mA0 rfl <| 
  mA1 rfl (⟨_, rfl, Nat.le_of_ble_eq_true rfl, gw_56, rfl⟩) <| 
  mA0 rfl <| 
  mA1 rfl (⟨_, rfl, Nat.le_of_ble_eq_true rfl, gw_55, rfl⟩) <| 
  mA0 rfl <| 
  mA0 rfl <| 
  mA0 rfl <| 
  mA1 rfl (⟨_, rfl, Nat.le_of_ble_eq_true rfl, gw_55, rfl⟩) <| 
  mA0 rfl <| 
  mA1 rfl (⟨_, rfl, Nat.le_of_ble_eq_true rfl, gw_56, rfl⟩) <| 
  mA0 rfl <| 
  mA0 rfl <| 
  mA0 rfl <| 
  mA0 rfl <| 
  mA1 rfl (⟨_, rfl, Nat.le_of_ble_eq_true rfl, gw_56, rfl⟩) <| 
  mA0 rfl <| 
  mA0 rfl <| 
  mA1 rfl (⟨_, rfl, Nat.le_of_ble_eq_true rfl, gw_56, rfl, Or.inl rfl⟩) <| 
  mA1 rfl (rfl) <| trivial

theorem mc_98 : mAllP 98 mt_98 :=
  mA0 rfl <| 
  mA0 rfl <| 
  mA0 rfl <| 
  mA0 rfl <| 
  mA1 rfl (⟨_, rfl, Nat.le_of_ble_eq_true rfl, gw_56, rfl⟩) <| 
  mA0 rfl <| 
  mA0 rfl <| 
  mA1 rfl (⟨_, rfl, Nat.le_of_ble_eq_true rfl, gw_56, rfl⟩) <| 
  mA0 rfl <| 
  mA1 rfl (⟨_, rfl, Nat.le_of_ble_eq_true rfl, gw_55, rfl⟩) <| 
  mA0 rfl <| 
  mA0 rfl <| 
  mA1 rfl (rfl) <| 
  mA0 rfl <| 
  mA1 rfl (⟨_, rfl, Nat.le_of_ble_eq_true rfl, gw_56, rfl⟩) <| 
  mA0 rfl <| 
  mA0 rfl <| 
  mA0 rfl <| 
  mA0 rfl <| 
  mA0 rfl <| 
  mA1 rfl (⟨_, rfl, Nat.le_of_ble_eq_true rfl, gw_55, rfl⟩) <| 
  mA0 rfl <| 
  mA0 rfl <| 
  mA1 rfl (⟨_, rfl, Nat.le_of_ble_eq_true rfl, gw_55, rfl⟩) <| 
  mA0 rfl <| 
  mA0 rfl <| 
  mA0 rfl <| 
  mA0 rfl <| 
  mA0 rfl <| 
  mA0 rfl <| 
  mA0 rfl <| 
  mA0 rfl <| 
  mA1 rfl (⟨_, rfl, Nat.le_of_ble_eq_true rfl, gw_55, rfl⟩) <| 
  mA0 rfl <| 
  mA0 rfl <| 
  mA0 rfl <| 
  mA0 rfl <| 
  mA0 rfl <| 
  mA1 rfl (⟨_, rfl, Nat.le_of_ble_eq_true rfl, gw_56, rfl⟩) <| 
  mA0 rfl <| 
  mA0 rfl <| 
  mA1 rfl (⟨_, rfl, Nat.le_of_ble_eq_true rfl, gw_56, rfl, Or.inl rfl⟩) <| 
  mA1 rfl (rfl) <| trivial

theorem mc_99 : mAllP 99 mt_99 :=
  mA0 rfl <| 
  mA0 rfl <| 
  mA0 rfl <| 
  mA0 rfl <| 
  mA1 rfl (⟨_, rfl, Nat.le_of_ble_eq_true rfl, gw_56, rfl⟩) <| 
  mA0 rfl <| 
  mA1 rfl (rfl) <| 
  mA0 rfl <| 
  mA0 rfl <| 
  mA0 rfl <| 
  mA0 rfl <| 
  mA1 rfl (⟨_, rfl, Nat.le_of_ble_eq_true rfl, gw_56, rfl⟩) <| 
  mA0 rfl <| 
  mA0 rfl <| 
  mA0 rfl <| 
  mA0 rfl <| 
  mA1 rfl (⟨_, rfl, Nat.le_of_ble_eq_true rfl, gw_55, rfl⟩) <| 
  mA0 rfl <| 
  mA0 rfl <| 
  mA1 rfl (⟨_, rfl, Nat.le_of_ble_eq_true rfl, gw_55, rfl⟩) <| 
  mA0 rfl <| 
  mA0 rfl <| 
  mA0 rfl <| 
  mA0 rfl <| 
  mA0 rfl <| 
  mA0 rfl <| 
  mA0 rfl <| 
  mA0 rfl <| 
  mA0 rfl <| 
  mA1 rfl (⟨_, rfl, Nat.le_of_ble_eq_true rfl, gw_56, rfl⟩) <| 
  mA0 rfl <| 
  mA0 rfl <| 
  mA1 rfl (⟨_, rfl, Nat.le_of_ble_eq_true rfl, gw_56, rfl, Or.inl rfl⟩) <| 
  mA1 rfl (rfl) <| trivial

theorem mc_100 : mAllP 100 mt_100 :=
  mA0 rfl <| 
  mA0 rfl <| 
  mA1 rfl (⟨_, rfl, Nat.le_of_ble_eq_true rfl, gw_56, rfl, Or.inl rfl⟩) <| 
  mA1 rfl (rfl) <| trivial

theorem mc_101 : mAllP 101 mt_101 :=
  mA0 rfl <| 
  mA0 rfl <| 
  mA1 rfl (⟨⟨Nat.le_of_ble_eq_true rfl, Nat.le_of_ble_eq_true rfl, Nat.le_of_ble_eq_true rfl, cal_329⟩, gw_53, Or.inl gw_52⟩) <| 
  mA0 rfl <| 
  mA0 rfl <| 
  mA0 rfl <| 
  mA0 rfl <| 
  mA0 rfl <| 
  mA0 rfl <| 
  mA1 rfl (⟨⟨Nat.le_of_ble_eq_true rfl, Nat.le_of_ble_eq_true rfl, Nat.le_of_ble_eq_true rfl, cal_93⟩, rfl, gw_705, gw_92, gw_93, _, rfl, rfl⟩) <| 
  mA0 rfl <| 
  mA0 rfl <| 
  mA0 rfl <| 
  mA0 rfl <| 
  mA1 rfl (⟨⟨Nat.le_of_ble_eq_true rfl, Nat.le_of_ble_eq_true rfl, Nat.le_of_ble_eq_true rfl, cal_95⟩, rfl, gw_706, gw_96, gw_97, _, rfl, rfl⟩) <| 
  mA1 rfl (⟨⟨Nat.le_of_ble_eq_true rfl, Nat.le_of_ble_eq_true rfl, Nat.le_of_ble_eq_true rfl, cal_97⟩, rfl, gw_707, gw_80, gw_81, _, rfl, rfl⟩) <| 
  mA0 rfl <| 
  mA0 rfl <| 
  mA1 rfl (rfl) <| trivial

theorem mc_102 : mAllP 102 mt_102 :=
  mA0 rfl <| 
  mA1 rfl (⟨⟨Nat.le_of_ble_eq_true rfl, Nat.le_of_ble_eq_true rfl, Nat.le_of_ble_eq_true rfl, cal_100⟩, rfl, gw_861, gw_88, gw_89, _, rfl, rfl⟩) <| 
  mA0 rfl <| 
  mA0 rfl <| 
  mA0 rfl <| 
  mA0 rfl <| 
  mA1 rfl (⟨⟨Nat.le_of_ble_eq_true rfl, Nat.le_of_ble_eq_true rfl, Nat.le_of_ble_eq_true rfl, cal_93⟩, rfl, gw_705, gw_92, gw_93, _, rfl, rfl⟩) <| 
  mA1 rfl (⟨⟨Nat.le_of_ble_eq_true rfl, Nat.le_of_ble_eq_true rfl, Nat.le_of_ble_eq_true rfl, cal_101⟩, rfl, gw_862, gw_702, gw_703, _, rfl, rfl⟩) <| 
  mA1 rfl (rfl) <| trivial

theorem mc_103 : mAllP 103 mt_103 :=
  mA0 rfl <| 
  mA0 rfl <| 
  mA0 rfl <| 
  mA0 rfl <| 
  mA1 rfl (⟨_, rfl, Nat.le_of_ble_eq_true rfl, gw_56, rfl⟩) <| 
  mA0 rfl <| 
  mA0 rfl <| 
  mA1 rfl (⟨_, rfl, Nat.le_of_ble_eq_true rfl, gw_55, rfl⟩) <| 
  mA0 rfl <| 
  mA0 rfl <| 
  mA0 rfl <| 
  mA0 rfl <| 
  mA0 rfl <| 
  mA1 rfl (Or.inl ⟨rfl, rfl⟩) <| 
  mA0 rfl <| 
  mA0 rfl <| 
  mA0 rfl <| 
  mA1 rfl (Or.inl ⟨rfl, rfl⟩) <| trivial

theorem mc_104 : mAllP 104 mt_104 :=
  mA0 rfl <| 
  mA0 rfl <| 
  mA1 rfl (⟨⟨Nat.le_of_ble_eq_true rfl, Nat.le_of_ble_eq_true rfl, Nat.le_of_ble_eq_true rfl, cal_103⟩, rfl, gw_659, gw_660, gw_661, _, rfl, rfl⟩) <| 
  mA0 rfl <| 
  mA0 rfl <| 
  mA0 rfl <| 
  mA0 rfl <| 
  mA0 rfl <| 
  mA1 rfl (Or.inr ⟨by decide, rfl⟩) <| trivial

theorem mc_105 : mAllP 105 mt_105 :=
  mA0 rfl <| 
  mA1 rfl (⟨gw_69, gw_27, gw_28, Nat.le_of_ble_eq_true rfl, Nat.le_of_ble_eq_true rfl⟩) <| 
  mA0 rfl <| 
  mA1 rfl (⟨_, rfl, gw_70, gw_47, gw_3⟩) <| 
  mA0 rfl <| 
  mA0 rfl <| 
  mA1 rfl (⟨⟨Nat.le_of_ble_eq_true rfl, Nat.le_of_ble_eq_true rfl, Nat.le_of_ble_eq_true rfl, cal_92⟩, rfl, rfl, (fun E => ⟨(100000, 0), rfl, mNone _⟩), gw_49, rfl, Or.inl gw_71⟩) <| 
  mA1 rfl (⟨_, rfl, Nat.le_of_ble_eq_true rfl, gw_99, rfl, Or.inr ⟨rfl, ini_105, rfl⟩⟩) <| 
  mA0 rfl <| 
  mA1 rfl (⟨_, rfl, gw_70, gw_47, gw_3⟩) <| 
  mA0 rfl <| 
  mA0 rfl <| 
  mA1 rfl (⟨⟨Nat.le_of_ble_eq_true rfl, Nat.le_of_ble_eq_true rfl, Nat.le_of_ble_eq_true rfl, cal_92⟩, rfl, rfl, (fun E => ⟨(100000, 0), rfl, mNone _⟩), gw_49, rfl, Or.inl gw_71⟩) <| 
  mA1 rfl (⟨_, rfl, Nat.le_of_ble_eq_true rfl, gw_100, rfl, Or.inr ⟨rfl, ini_105, rfl⟩⟩) <| 
  mA0 rfl <| 
  mA1 rfl (⟨_, rfl, gw_70, gw_47, gw_3⟩) <| 
  mA0 rfl <| 
  mA0 rfl <| 
  mA1 rfl (⟨⟨Nat.le_of_ble_eq_true rfl, Nat.le_of_ble_eq_true rfl, Nat.le_of_ble_eq_true rfl, cal_92⟩, rfl, rfl, (fun E => ⟨(100000, 0), rfl, mNone _⟩), gw_49, rfl, Or.inl gw_71⟩) <| 
  mA1 rfl (⟨_, rfl, Nat.le_of_ble_eq_true rfl, gw_101, rfl, Or.inr ⟨rfl, ini_105, rfl⟩⟩) <| 
  mA0 rfl <| 
  mA1 rfl (⟨_, rfl, gw_70, gw_47, gw_3⟩) <| 
  mA0 rfl <| 
  mA0 rfl <| 
  mA1 rfl (⟨⟨Nat.le_of_ble_eq_true rfl, Nat.le_of_ble_eq_true rfl, Nat.le_of_ble_eq_true rfl, cal_92⟩, rfl, rfl, (fun E => ⟨(100000, 0), rfl, mNone _⟩), gw_49, rfl, Or.inl gw_71⟩) <| 
  mA1 rfl (⟨_, rfl, Nat.le_of_ble_eq_true rfl, gw_102, rfl, Or.inr ⟨rfl, ini_105, rfl⟩⟩) <| 
  mA0 rfl <| 
  mA1 rfl (⟨_, rfl, gw_70, gw_47, gw_3⟩) <| 
  mA0 rfl <| 
  mA0 rfl <| 
  mA1 rfl (⟨⟨Nat.le_of_ble_eq_true rfl, Nat.le_of_ble_eq_true rfl, Nat.le_of_ble_eq_true rfl, cal_92⟩, rfl, rfl, (fun E => ⟨(100000, 0), rfl, mNone _⟩), gw_49, rfl, Or.inl gw_71⟩) <| 
  mA1 rfl (⟨_, rfl, Nat.le_of_ble_eq_true rfl, gw_103, rfl, Or.inr ⟨rfl, ini_105, rfl⟩⟩) <| 
  mA0 rfl <| 
  mA1 rfl (⟨_, rfl, gw_70, gw_47, gw_3⟩) <| 
  mA0 rfl <| 
  mA0 rfl <| 
  mA1 rfl (⟨⟨Nat.le_of_ble_eq_true rfl, Nat.le_of_ble_eq_true rfl, Nat.le_of_ble_eq_true rfl, cal_92⟩, rfl, rfl, (fun E => ⟨(100000, 0), rfl, mNone _⟩), gw_49, rfl, Or.inl gw_71⟩) <| 
  mA1 rfl (⟨_, rfl, Nat.le_of_ble_eq_true rfl, gw_104, rfl, Or.inr ⟨rfl, ini_105, rfl⟩⟩) <| 
  mA0 rfl <| 
  mA1 rfl (⟨_, rfl, gw_70, gw_47, gw_3⟩) <| 
  mA0 rfl <| 
  mA0 rfl <| 
  mA1 rfl (⟨⟨Nat.le_of_ble_eq_true rfl, Nat.le_of_ble_eq_true rfl, Nat.le_of_ble_eq_true rfl, cal_92⟩, rfl, rfl, (fun E => ⟨(100000, 0), rfl, mNone _⟩), gw_49, rfl, Or.inl gw_71⟩) <| 
  mA1 rfl (⟨_, rfl, Nat.le_of_ble_eq_true rfl, gw_105, rfl, Or.inr ⟨rfl, ini_105, rfl⟩⟩) <| 
  mA0 rfl <| 
  mA1 rfl (⟨_, rfl, gw_70, gw_47, gw_3⟩) <| 
  mA0 rfl <| 
  mA0 rfl <| 
  mA1 rfl (⟨⟨Nat.le_of_ble_eq_true rfl, Nat.le_of_ble_eq_true rfl, Nat.le_of_ble_eq_true rfl, cal_92⟩, rfl, rfl, (fun E => ⟨(100000, 0), rfl, mNone _⟩), gw_49, rfl, Or.inl gw_71⟩) <| 
  mA1 rfl (⟨_, rfl, Nat.le_of_ble_eq_true rfl, gw_106, rfl, Or.inr ⟨rfl, ini_105, rfl⟩⟩) <| 
  mA0 rfl <| 
  mA1 rfl (⟨_, rfl, gw_70, gw_47, gw_3⟩) <| 
  mA0 rfl <| 
  mA0 rfl <| 
  mA1 rfl (⟨⟨Nat.le_of_ble_eq_true rfl, Nat.le_of_ble_eq_true rfl, Nat.le_of_ble_eq_true rfl, cal_92⟩, rfl, rfl, (fun E => ⟨(100000, 0), rfl, mNone _⟩), gw_49, rfl, Or.inl gw_71⟩) <| 
  mA1 rfl (⟨_, rfl, Nat.le_of_ble_eq_true rfl, gw_107, rfl, Or.inr ⟨rfl, ini_105, rfl⟩⟩) <| 
  mA0 rfl <| 
  mA1 rfl (⟨_, rfl, gw_70, gw_47, gw_3⟩) <| 
  mA0 rfl <| 
  mA0 rfl <| 
  mA1 rfl (⟨⟨Nat.le_of_ble_eq_true rfl, Nat.le_of_ble_eq_true rfl, Nat.le_of_ble_eq_true rfl, cal_92⟩, rfl, rfl, (fun E => ⟨(100000, 0), rfl, mNone _⟩), gw_49, rfl, Or.inl gw_71⟩) <| 
  mA1 rfl (⟨_, rfl, Nat.le_of_ble_eq_true rfl, gw_108, rfl, Or.inr ⟨rfl, ini_105, rfl⟩⟩) <| 
  mA0 rfl <| 
  mA0 rfl <| 
  mA1 rfl (gw_133) <| 
  mA1 rfl (⟨_, rfl, Nat.le_of_ble_eq_true rfl, gw_109, rfl, Or.inr ⟨rfl, ini_105, rfl⟩⟩) <| 
  mA0 rfl <| 
  mA0 rfl <| 
  mA0 rfl <| 
  mA0 rfl <| 
  mA0 rfl <| 
  mA0 rfl <| 
  mA0 rfl <| 
  mA0 rfl <| 
  mA1 rfl (⟨⟨Nat.le_of_ble_eq_true rfl, Nat.le_of_ble_eq_true rfl, Nat.le_of_ble_eq_true rfl, cal_106⟩, rfl, gw_72, gw_74, gs_106, _, rfl, rfl⟩) <| 
  mA0 rfl <| 
  mA0 rfl <| 
  mA0 rfl <| 
  mA0 rfl <| 
  mA0 rfl <| 
  mA0 rfl <| 
  mA0 rfl <| 
  mA0 rfl <| 
  mA0 rfl <| 
  mA0 rfl <| 
  mA1 rfl (⟨⟨Nat.le_of_ble_eq_true rfl, Nat.le_of_ble_eq_true rfl, Nat.le_of_ble_eq_true rfl, cal_106⟩, rfl, gw_72, gw_74, gs_106, _, rfl, rfl⟩) <| 
  mA0 rfl <| 
  mA0 rfl <| 
  mA0 rfl <| 
  mA0 rfl <| 
  mA0 rfl <| 
  mA1 rfl (⟨⟨Nat.le_of_ble_eq_true rfl, Nat.le_of_ble_eq_true rfl, Nat.le_of_ble_eq_true rfl, cal_106⟩, rfl, gw_72, gw_74, gs_106, _, rfl, rfl⟩) <| 
  mA0 rfl <| 
  mA0 rfl <| 
  mA0 rfl <| 
  mA1 rfl (⟨⟨Nat.le_of_ble_eq_true rfl, Nat.le_of_ble_eq_true rfl, Nat.le_of_ble_eq_true rfl, cal_107⟩, rfl, gw_83, gw_85, gs_107, _, rfl, rfl⟩) <| 
  mA1 rfl (rfl) <| trivial

theorem mc_106 : mAllP 106 mt_106 :=
  mA0 rfl <| 
  mA1 rfl (⟨_, rfl, Nat.le_of_ble_eq_true rfl, gw_99, rfl⟩) <| 
  mA0 rfl <| 
  mA1 rfl (⟨⟨Nat.le_of_ble_eq_true rfl, Nat.le_of_ble_eq_true rfl, Nat.le_of_ble_eq_true rfl, cal_185⟩, gw_77, Or.inr ⟨rfl, (fun E => ⟨(100000, 0), rfl, mNone _⟩), _, List.mem_of_getElem? (i := 0) rfl⟩⟩) <| 
  mA1 rfl (⟨⟨Nat.le_of_ble_eq_true rfl, Nat.le_of_ble_eq_true rfl, Nat.le_of_ble_eq_true rfl, cal_97⟩, rfl, gw_79, gw_80, gw_81, _, rfl, rfl⟩) <| 
  mA0 rfl <| 
  mA1 rfl (⟨_, rfl, Nat.le_of_ble_eq_true rfl, gw_100, rfl⟩) <| 
  mA0 rfl <| 
  mA1 rfl (⟨⟨Nat.le_of_ble_eq_true rfl, Nat.le_of_ble_eq_true rfl, Nat.le_of_ble_eq_true rfl, cal_97⟩, rfl, gw_79, gw_80, gw_81, _, rfl, rfl⟩) <| 
  mA1 rfl (rfl) <| trivial

theorem mc_107 : mAllP 107 mt_107 :=
  mA0 rfl <| 
  mA1 rfl (⟨_, rfl, Nat.le_of_ble_eq_true rfl, gw_101, rfl⟩) <| 
  mA1 rfl (⟨⟨Nat.le_of_ble_eq_true rfl, Nat.le_of_ble_eq_true rfl, Nat.le_of_ble_eq_true rfl, cal_100⟩, rfl, gw_87, gw_88, gw_89, _, rfl, rfl⟩) <| 
  mA0 rfl <| 
  mA1 rfl (⟨_, rfl, Nat.le_of_ble_eq_true rfl, gw_102, rfl⟩) <| 
  mA1 rfl (⟨⟨Nat.le_of_ble_eq_true rfl, Nat.le_of_ble_eq_true rfl, Nat.le_of_ble_eq_true rfl, cal_100⟩, rfl, gw_87, gw_88, gw_89, _, rfl, rfl⟩) <| 
  mA0 rfl <| 
  mA1 rfl (⟨_, rfl, Nat.le_of_ble_eq_true rfl, gw_103, rfl⟩) <| 
  mA1 rfl (⟨⟨Nat.le_of_ble_eq_true rfl, Nat.le_of_ble_eq_true rfl, Nat.le_of_ble_eq_true rfl, cal_100⟩, rfl, gw_87, gw_88, gw_89, _, rfl, rfl⟩) <| 
  mA0 rfl <| 
  mA0 rfl <| 
  mA0 rfl <| 
  mA0 rfl <| 
  mA0 rfl <| 
  mA0 rfl <| 
  mA0 rfl <| 
  mA0 rfl <| 
  mA0 rfl <| 
  mA0 rfl <| 
  mA1 rfl (⟨_, rfl, Nat.le_of_ble_eq_true rfl, gw_99, rfl⟩) <| 
  mA1 rfl (⟨⟨Nat.le_of_ble_eq_true rfl, Nat.le_of_ble_eq_true rfl, Nat.le_of_ble_eq_true rfl, cal_93⟩, rfl, gw_91, gw_92, gw_93, _, rfl, rfl⟩) <| 
  mA0 rfl <| 
  mA0 rfl <| 
  mA1 rfl (⟨_, rfl, Nat.le_of_ble_eq_true rfl, gw_100, rfl⟩) <| 
  mA0 rfl <| 
  mA1 rfl (⟨⟨Nat.le_of_ble_eq_true rfl, Nat.le_of_ble_eq_true rfl, Nat.le_of_ble_eq_true rfl, cal_95⟩, rfl, gw_95, gw_96, gw_97, _, rfl, rfl⟩) <| 
  mA0 rfl <| 
  mA0 rfl <| 
  mA0 rfl <| 
  mA0 rfl <| 
  mA0 rfl <| 
  mA0 rfl <| 
  mA0 rfl <| 
  mA0 rfl <| 
  mA0 rfl <| 
  mA0 rfl <| 
  mA0 rfl <| 
  mA0 rfl <| 
  mA0 rfl <| 
  mA0 rfl <| 
  mA0 rfl <| 
  mA0 rfl <| 
  mA0 rfl <| 
  mA0 rfl <| 
  mA0 rfl <| 
  mA0 rfl <| 
  mA0 rfl <| 
  mA0 rfl <| 
  mA0 rfl <| 
  mA0 rfl <| 
  mA0 rfl <| 
  mA0 rfl <| 
  mA0 rfl <| 
  mA0 rfl <| 
  mA0 rfl <| 
  mA0 rfl <| 
  mA0 rfl <| 
  mA0 rfl <| 
  mA0 rfl <| 
  mA0 rfl <| 
  mA0 rfl <| 
  mA0 rfl <| 
  mA0 rfl <| 
  mA0 rfl <| 
  mA0 rfl <| 
  mA1 rfl (⟨_, rfl, Nat.le_of_ble_eq_true rfl, gw_101, rfl⟩) <| 
  mA0 rfl <| 
  mA1 rfl (⟨⟨Nat.le_of_ble_eq_true rfl, Nat.le_of_ble_eq_true rfl, Nat.le_of_ble_eq_true rfl, cal_97⟩, rfl, gw_79, gw_80, gw_81, _, rfl, rfl⟩) <| 
  mA0 rfl <| 
  mA1 rfl (⟨_, rfl, Nat.le_of_ble_eq_true rfl, gw_102, rfl⟩) <| 
  mA0 rfl <| 
  mA1 rfl (⟨⟨Nat.le_of_ble_eq_true rfl, Nat.le_of_ble_eq_true rfl, Nat.le_of_ble_eq_true rfl, cal_97⟩, rfl, gw_79, gw_80, gw_81, _, rfl, rfl⟩) <| 
  mA0 rfl <| 
  mA1 rfl (⟨_, rfl, Nat.le_of_ble_eq_true rfl, gw_103, rfl⟩) <| 
  mA0 rfl <| 
  mA1 rfl (⟨⟨Nat.le_of_ble_eq_true rfl, Nat.le_of_ble_eq_true rfl, Nat.le_of_ble_eq_true rfl, cal_97⟩, rfl, gw_79, gw_80, gw_81, _, rfl, rfl⟩) <| 
  mA0 rfl <| 
  mA0 rfl <| 
  mA1 rfl (rfl) <| trivial

theorem mc_108 : mAllP 108 mt_108 :=
  mA0 rfl <| 
  mA0 rfl <| 
  mA0 rfl <| 
  mA0 rfl <| 
  mA0 rfl <| 
  mA0 rfl <| 
  mA1 rfl (⟨_, rfl, Nat.le_of_ble_eq_true rfl, gw_109, rfl⟩) <| 
  mA0 rfl <| 
  mA0 rfl <| 
  mA0 rfl <| 
  mA0 rfl <| 
  mA0 rfl <| 
  mA0 rfl <| 
  mA1 rfl (Or.inr ⟨by decide, rfl⟩) <| trivial

theorem mc_109 : mAllP 109 mt_109 :=
  mA0 rfl <| 
  mA0 rfl <| 
  mA0 rfl <| 
  mA0 rfl <| 
  mA0 rfl <| 
  mA0 rfl <| 
  mA1 rfl (⟨_, rfl, Nat.le_of_ble_eq_true rfl, gw_109, rfl⟩) <| 
  mA0 rfl <| 
  mA0 rfl <| 
  mA0 rfl <| 
  mA1 rfl (rfl) <| trivial

theorem mc_110 : mAllP 110 mt_110 :=
  mA0 rfl <| 
  mA1 rfl (⟨_, rfl, Nat.le_of_ble_eq_true rfl, gw_99, rfl⟩) <| 
  mA1 rfl (⟨⟨Nat.le_of_ble_eq_true rfl, Nat.le_of_ble_eq_true rfl, Nat.le_of_ble_eq_true rfl, cal_93⟩, rfl, gw_91, gw_92, gw_93, _, rfl, rfl⟩) <| 
  mA1 rfl (Or.inl ⟨rfl, rfl⟩) <| trivial

theorem mc_111 : mAllP 111 mt_111 :=
  mA0 rfl <| 
  mA1 rfl (⟨_, rfl, Nat.le_of_ble_eq_true rfl, gw_106, rfl⟩) <| 
  mA1 rfl (⟨⟨Nat.le_of_ble_eq_true rfl, Nat.le_of_ble_eq_true rfl, Nat.le_of_ble_eq_true rfl, cal_93⟩, rfl, gw_91, gw_92, gw_93, _, rfl, rfl⟩) <| 
  mA1 rfl (Or.inl ⟨rfl, rfl⟩) <| trivial

theorem mc_112 : mAllP 112 mt_112 :=
  mA1 rfl (gw_1189) <| 
  mA0 rfl <| 
  mA1 rfl (⟨_, rfl, Nat.le_of_ble_eq_true rfl, gw_100, rfl⟩) <| 
  mA0 rfl <| 
  mA1 rfl (⟨⟨Nat.le_of_ble_eq_true rfl, Nat.le_of_ble_eq_true rfl, Nat.le_of_ble_eq_true rfl, cal_95⟩, rfl, gw_95, gw_96, gw_97, _, rfl, rfl⟩) <| 
  mA0 rfl <| 
  mA0 rfl <| 
  mA1 rfl (⟨_, rfl, Nat.le_of_ble_eq_true rfl, gw_99, rfl⟩) <| 
  mA0 rfl <| 
  mA1 rfl (⟨⟨Nat.le_of_ble_eq_true rfl, Nat.le_of_ble_eq_true rfl, Nat.le_of_ble_eq_true rfl, cal_95⟩, rfl, gw_95, gw_96, gw_97, _, rfl, rfl⟩) <| 
  mA0 rfl <| 
  mA1 rfl (Or.inl ⟨rfl, rfl⟩) <| trivial

theorem mc_113 : mAllP 113 mt_113 :=
  mA0 rfl <| 
  mA1 rfl (⟨_, rfl, Nat.le_of_ble_eq_true rfl, gw_99, rfl⟩) <| 
  mA0 rfl <| 
  mA1 rfl (⟨⟨Nat.le_of_ble_eq_true rfl, Nat.le_of_ble_eq_true rfl, Nat.le_of_ble_eq_true rfl, cal_103⟩, rfl, gw_766, gw_660, gw_661, _, rfl, rfl⟩) <| 
  mA0 rfl <| 
  mA0 rfl <| 
  mA0 rfl <| 
  mA1 rfl (⟨_, rfl, Nat.le_of_ble_eq_true rfl, gw_104, rfl⟩) <| 
  mA0 rfl <| 
  mA1 rfl (⟨⟨Nat.le_of_ble_eq_true rfl, Nat.le_of_ble_eq_true rfl, Nat.le_of_ble_eq_true rfl, cal_103⟩, rfl, gw_766, gw_660, gw_661, _, rfl, rfl⟩) <| 
  mA0 rfl <| 
  mA0 rfl <| 
  mA0 rfl <| 
  mA0 rfl <| 
  mA0 rfl <| 
  mA1 rfl (Or.inr ⟨by decide, rfl⟩) <| trivial

theorem mc_114 : mAllP 114 mt_114 :=
  mA0 rfl <| 
  mA1 rfl (⟨_, rfl, Nat.le_of_ble_eq_true rfl, gw_101, rfl⟩) <| 
  mA0 rfl <| 
  mA1 rfl (⟨_, rfl, Nat.le_of_ble_eq_true rfl, gw_99, rfl⟩) <| 
  mA0 rfl <| 
  mA1 rfl (⟨⟨Nat.le_of_ble_eq_true rfl, Nat.le_of_ble_eq_true rfl, Nat.le_of_ble_eq_true rfl, cal_103⟩, rfl, gw_766, gw_660, gw_661, _, rfl, rfl⟩) <| 
  mA1 rfl (⟨⟨Nat.le_of_ble_eq_true rfl, Nat.le_of_ble_eq_true rfl, Nat.le_of_ble_eq_true rfl, cal_95⟩, rfl, gw_95, gw_96, gw_97, _, rfl, rfl⟩) <| 
  mA0 rfl <| 
  mA1 rfl (⟨⟨Nat.le_of_ble_eq_true rfl, Nat.le_of_ble_eq_true rfl, Nat.le_of_ble_eq_true rfl, cal_329⟩, gw_53, Or.inl gw_767⟩) <| 
  mA1 rfl (Or.inl ⟨rfl, rfl⟩) <| trivial

theorem mc_115 : mAllP 115 mt_115 :=
  mA0 rfl <| 
  mA1 rfl (⟨_, rfl, Nat.le_of_ble_eq_true rfl, gw_104, rfl⟩) <| 
  mA0 rfl <| 
  mA1 rfl (⟨⟨Nat.le_of_ble_eq_true rfl, Nat.le_of_ble_eq_true rfl, Nat.le_of_ble_eq_true rfl, cal_103⟩, rfl, gw_766, gw_660, gw_661, _, rfl, rfl⟩) <| 
  mA0 rfl <| 
  mA0 rfl <| 
  mA1 rfl (⟨_, rfl, Nat.le_of_ble_eq_true rfl, gw_105, rfl⟩) <| 
  mA0 rfl <| 
  mA1 rfl (⟨⟨Nat.le_of_ble_eq_true rfl, Nat.le_of_ble_eq_true rfl, Nat.le_of_ble_eq_true rfl, cal_95⟩, rfl, gw_95, gw_96, gw_97, _, rfl, rfl⟩) <| 
  mA0 rfl <| 
  mA0 rfl <| 
  mA0 rfl <| 
  mA0 rfl <| 
  mA0 rfl <| 
  mA0 rfl <| 
  mA0 rfl <| 
  mA1 rfl (⟨⟨Nat.le_of_ble_eq_true rfl, Nat.le_of_ble_eq_true rfl, Nat.le_of_ble_eq_true rfl, cal_186⟩, gw_643, Or.inr ⟨rfl, (fun E => ⟨(100000, 0), rfl, mNone _⟩), _, List.mem_of_getElem? (i := 10) rfl⟩⟩) <| 
  mA0 rfl <| 
  mA0 rfl <| 
  mA0 rfl <| 
  mA0 rfl <| 
  mA0 rfl <| 
  mA0 rfl <| 
  mA0 rfl <| 
  mA1 rfl (⟨_, rfl, Nat.le_of_ble_eq_true rfl, gw_99, rfl⟩) <| 
  mA0 rfl <| 
  mA0 rfl <| 
  mA0 rfl <| 
  mA0 rfl <| 
  mA0 rfl <| 
  mA0 rfl <| 
  mA0 rfl <| 
  mA1 rfl (⟨⟨Nat.le_of_ble_eq_true rfl, Nat.le_of_ble_eq_true rfl, Nat.le_of_ble_eq_true rfl, cal_187⟩, gw_646, Or.inr ⟨rfl, (fun E => ⟨(100000, 0), rfl, mNone _⟩), _, List.mem_of_getElem? (i := 11) rfl⟩⟩) <| 
  mA1 rfl (⟨⟨Nat.le_of_ble_eq_true rfl, Nat.le_of_ble_eq_true rfl, Nat.le_of_ble_eq_true rfl, cal_185⟩, gw_77, Or.inr ⟨rfl, (fun E => ⟨(100000, 0), rfl, mNone _⟩), _, List.mem_of_getElem? (i := 0) rfl⟩⟩) <| 
  mA1 rfl (⟨⟨Nat.le_of_ble_eq_true rfl, Nat.le_of_ble_eq_true rfl, Nat.le_of_ble_eq_true rfl, cal_103⟩, rfl, gw_766, gw_660, gw_661, _, rfl, rfl⟩) <| 
  mA0 rfl <| 
  mA0 rfl <| 
  mA0 rfl <| 
  mA1 rfl (⟨_, rfl, Nat.le_of_ble_eq_true rfl, gw_101, rfl⟩) <| 
  mA0 rfl <| 
  mA1 rfl (⟨⟨Nat.le_of_ble_eq_true rfl, Nat.le_of_ble_eq_true rfl, Nat.le_of_ble_eq_true rfl, cal_95⟩, rfl, gw_95, gw_96, gw_97, _, rfl, rfl⟩) <| 
  mA0 rfl <| 
  mA1 rfl (⟨_, rfl, Nat.le_of_ble_eq_true rfl, gw_102, rfl⟩) <| 
  mA0 rfl <| 
  mA1 rfl (⟨⟨Nat.le_of_ble_eq_true rfl, Nat.le_of_ble_eq_true rfl, Nat.le_of_ble_eq_true rfl, cal_95⟩, rfl, gw_95, gw_96, gw_97, _, rfl, rfl⟩) <| 
  mA0 rfl <| 
  mA1 rfl (⟨_, rfl, Nat.le_of_ble_eq_true rfl, gw_103, rfl⟩) <| 
  mA0 rfl <| 
  mA1 rfl (⟨⟨Nat.le_of_ble_eq_true rfl, Nat.le_of_ble_eq_true rfl, Nat.le_of_ble_eq_true rfl, cal_95⟩, rfl, gw_95, gw_96, gw_97, _, rfl, rfl⟩) <| 
  mA1 rfl (⟨⟨Nat.le_of_ble_eq_true rfl, Nat.le_of_ble_eq_true rfl, Nat.le_of_ble_eq_true rfl, cal_37⟩, rfl, gw_790, gw_747, gw_748, _, rfl, rfl⟩) <| 
  mA0 rfl <| 
  mA0 rfl <| 
  mA1 rfl (rfl) <| trivial

theorem mc_116 : mAllP 116 mt_116 :=
  mA0 rfl <| 
  mA1 rfl (⟨_, rfl, Nat.le_of_ble_eq_true rfl, gw_106, rfl⟩) <| 
  mA1 rfl (⟨⟨Nat.le_of_ble_eq_true rfl, Nat.le_of_ble_eq_true rfl, Nat.le_of_ble_eq_true rfl, cal_93⟩, rfl, gw_91, gw_92, gw_93, _, rfl, rfl⟩) <| 
  mA0 rfl <| 
  mA0 rfl <| 
  mA0 rfl <| 
  mA0 rfl <| 
  mA0 rfl <| 
  mA0 rfl <| 
  mA0 rfl <| 
  mA0 rfl <| 
  mA0 rfl <| 
  mA1 rfl (⟨⟨Nat.le_of_ble_eq_true rfl, Nat.le_of_ble_eq_true rfl, Nat.le_of_ble_eq_true rfl, cal_117⟩, gw_640, Or.inl gw_639⟩) <| 
  mA0 rfl <| 
  mA0 rfl <| 
  mA1 rfl (Or.inr ⟨by decide, rfl⟩) <| 
  mA0 rfl <| 
  mA0 rfl <| 
  mA0 rfl <| 
  mA0 rfl <| 
  mA0 rfl <| 
  mA0 rfl <| 
  mA1 rfl (⟨⟨Nat.le_of_ble_eq_true rfl, Nat.le_of_ble_eq_true rfl, Nat.le_of_ble_eq_true rfl, cal_118⟩, rfl, gw_651, gw_653, gs_118, _, rfl, rfl⟩) <| 
  mA0 rfl <| 
  mA0 rfl <| 
  mA1 rfl (⟨_, rfl, Nat.le_of_ble_eq_true rfl, gw_99, rfl⟩) <| 
  mA0 rfl <| 
  mA1 rfl (⟨⟨Nat.le_of_ble_eq_true rfl, Nat.le_of_ble_eq_true rfl, Nat.le_of_ble_eq_true rfl, cal_104⟩, rfl, gw_655, gw_656, gw_657, _, rfl, rfl⟩) <| 
  mA1 rfl (Or.inr ⟨by decide, rfl⟩) <| trivial

theorem mc_117 : mAllP 117 mt_117 :=
  mA0 rfl <| 
  mA0 rfl <| 
  mA0 rfl <| 
  mA0 rfl <| 
  mA1 rfl (⟨⟨Nat.le_of_ble_eq_true rfl, Nat.le_of_ble_eq_true rfl, Nat.le_of_ble_eq_true rfl, cal_186⟩, gw_643, Or.inr ⟨rfl, (fun E => ⟨(100000, 0), rfl, mNone _⟩), _, List.mem_of_getElem? (i := 10) rfl⟩⟩) <| 
  mA0 rfl <| 
  mA0 rfl <| 
  mA0 rfl <| 
  mA1 rfl (⟨⟨Nat.le_of_ble_eq_true rfl, Nat.le_of_ble_eq_true rfl, Nat.le_of_ble_eq_true rfl, cal_187⟩, gw_646, Or.inr ⟨rfl, (fun E => ⟨(100000, 0), rfl, mNone _⟩), _, List.mem_of_getElem? (i := 11) rfl⟩⟩) <| 
  mA1 rfl (⟨⟨Nat.le_of_ble_eq_true rfl, Nat.le_of_ble_eq_true rfl, Nat.le_of_ble_eq_true rfl, cal_178⟩, gw_534, Or.inr ⟨rfl, (fun E => ⟨(100000, 0), rfl, mNone _⟩), _, List.mem_of_getElem? (i := 12) rfl⟩⟩) <| 
  mA0 rfl <| 
  mA0 rfl <| 
  mA0 rfl <| 
  mA1 rfl (⟨⟨Nat.le_of_ble_eq_true rfl, Nat.le_of_ble_eq_true rfl, Nat.le_of_ble_eq_true rfl, cal_187⟩, gw_646, Or.inr ⟨rfl, (fun E => ⟨(100000, 0), rfl, mNone _⟩), _, List.mem_of_getElem? (i := 11) rfl⟩⟩) <| 
  mA1 rfl (⟨⟨Nat.le_of_ble_eq_true rfl, Nat.le_of_ble_eq_true rfl, Nat.le_of_ble_eq_true rfl, cal_179⟩, gw_537, Or.inr ⟨rfl, (fun E => ⟨(100000, 0), rfl, mNone _⟩), _, List.mem_of_getElem? (i := 13) rfl⟩⟩) <| 
  mA0 rfl <| 
  mA0 rfl <| 
  mA1 rfl (Or.inr ⟨by decide, rfl⟩) <| 
  mA0 rfl <| 
  mA0 rfl <| 
  mA0 rfl <| 
  mA1 rfl (⟨⟨Nat.le_of_ble_eq_true rfl, Nat.le_of_ble_eq_true rfl, Nat.le_of_ble_eq_true rfl, cal_186⟩, gw_643, Or.inr ⟨rfl, (fun E => ⟨(100000, 0), rfl, mNone _⟩), _, List.mem_of_getElem? (i := 10) rfl⟩⟩) <| 
  mA0 rfl <| 
  mA0 rfl <| 
  mA0 rfl <| 
  mA1 rfl (⟨⟨Nat.le_of_ble_eq_true rfl, Nat.le_of_ble_eq_true rfl, Nat.le_of_ble_eq_true rfl, cal_187⟩, gw_646, Or.inr ⟨rfl, (fun E => ⟨(100000, 0), rfl, mNone _⟩), _, List.mem_of_getElem? (i := 11) rfl⟩⟩) <| 
  mA1 rfl (⟨⟨Nat.le_of_ble_eq_true rfl, Nat.le_of_ble_eq_true rfl, Nat.le_of_ble_eq_true rfl, cal_178⟩, gw_534, Or.inr ⟨rfl, (fun E => ⟨(100000, 0), rfl, mNone _⟩), _, List.mem_of_getElem? (i := 12) rfl⟩⟩) <| 
  mA0 rfl <| 
  mA0 rfl <| 
  mA0 rfl <| 
  mA0 rfl <| 
  mA1 rfl (Or.inr ⟨by decide, rfl⟩) <| trivial

theorem mc_118 : mAllP 118 mt_118 :=
  mA0 rfl <| 
  mA0 rfl <| 
  mA0 rfl <| 
  mA0 rfl <| 
  mA1 rfl (⟨⟨Nat.le_of_ble_eq_true rfl, Nat.le_of_ble_eq_true rfl, Nat.le_of_ble_eq_true rfl, cal_186⟩, gw_643, Or.inr ⟨rfl, (fun E => ⟨(100000, 0), rfl, mNone _⟩), _, List.mem_of_getElem? (i := 10) rfl⟩⟩) <| 
  mA0 rfl <| 
  mA0 rfl <| 
  mA0 rfl <| 
  mA1 rfl (⟨⟨Nat.le_of_ble_eq_true rfl, Nat.le_of_ble_eq_true rfl, Nat.le_of_ble_eq_true rfl, cal_187⟩, gw_646, Or.inr ⟨rfl, (fun E => ⟨(100000, 0), rfl, mNone _⟩), _, List.mem_of_getElem? (i := 11) rfl⟩⟩) <| 
  mA1 rfl (⟨⟨Nat.le_of_ble_eq_true rfl, Nat.le_of_ble_eq_true rfl, Nat.le_of_ble_eq_true rfl, cal_185⟩, gw_77, Or.inr ⟨rfl, (fun E => ⟨(100000, 0), rfl, mNone _⟩), _, List.mem_of_getElem? (i := 0) rfl⟩⟩) <| 
  mA0 rfl <| 
  mA0 rfl <| 
  mA0 rfl <| 
  mA1 rfl (⟨⟨Nat.le_of_ble_eq_true rfl, Nat.le_of_ble_eq_true rfl, Nat.le_of_ble_eq_true rfl, cal_187⟩, gw_646, Or.inr ⟨rfl, (fun E => ⟨(100000, 0), rfl, mNone _⟩), _, List.mem_of_getElem? (i := 11) rfl⟩⟩) <| 
  mA1 rfl (⟨⟨Nat.le_of_ble_eq_true rfl, Nat.le_of_ble_eq_true rfl, Nat.le_of_ble_eq_true rfl, cal_178⟩, gw_534, Or.inr ⟨rfl, (fun E => ⟨(100000, 0), rfl, mNone _⟩), _, List.mem_of_getElem? (i := 12) rfl⟩⟩) <| 
  mA0 rfl <| 
  mA0 rfl <| 
  mA1 rfl (⟨_, rfl, Nat.le_of_ble_eq_true rfl, gw_99, rfl⟩) <| 
  mA0 rfl <| 
  mA1 rfl (⟨⟨Nat.le_of_ble_eq_true rfl, Nat.le_of_ble_eq_true rfl, Nat.le_of_ble_eq_true rfl, cal_104⟩, rfl, gw_655, gw_656, gw_657, _, rfl, rfl⟩) <| 
  mA0 rfl <| 
  mA0 rfl <| 
  mA0 rfl <| 
  mA0 rfl <| 
  mA0 rfl <| 
  mA1 rfl (Or.inr ⟨by decide, rfl⟩) <| 
  mA0 rfl <| 
  mA0 rfl <| 
  mA0 rfl <| 
  mA1 rfl (⟨⟨Nat.le_of_ble_eq_true rfl, Nat.le_of_ble_eq_true rfl, Nat.le_of_ble_eq_true rfl, cal_186⟩, gw_643, Or.inr ⟨rfl, (fun E => ⟨(100000, 0), rfl, mNone _⟩), _, List.mem_of_getElem? (i := 10) rfl⟩⟩) <| 
  mA0 rfl <| 
  mA0 rfl <| 
  mA0 rfl <| 
  mA0 rfl <| 
  mA1 rfl (⟨⟨Nat.le_of_ble_eq_true rfl, Nat.le_of_ble_eq_true rfl, Nat.le_of_ble_eq_true rfl, cal_119⟩, rfl, gw_663, gw_665, gs_119, _, rfl, rfl⟩) <| 
  mA0 rfl <| 
  mA0 rfl <| 
  mA0 rfl <| 
  mA0 rfl <| 
  mA1 rfl (Or.inr ⟨by decide, rfl⟩) <| trivial

theorem mc_119 : mAllP 119 mt_119 :=
  mA0 rfl <| 
  mA0 rfl <| 
  mA0 rfl <| 
  mA0 rfl <| 
  mA1 rfl (⟨_, rfl, Nat.le_of_ble_eq_true rfl, gw_104, rfl⟩) <| 
  mA1 rfl (⟨⟨Nat.le_of_ble_eq_true rfl, Nat.le_of_ble_eq_true rfl, Nat.le_of_ble_eq_true rfl, cal_93⟩, rfl, gw_91, gw_92, gw_93, _, rfl, rfl⟩) <| 
  mA0 rfl <| 
  mA0 rfl <| 
  mA1 rfl (⟨_, rfl, Nat.le_of_ble_eq_true rfl, gw_105, rfl⟩) <| 
  mA0 rfl <| 
  mA1 rfl (⟨⟨Nat.le_of_ble_eq_true rfl, Nat.le_of_ble_eq_true rfl, Nat.le_of_ble_eq_true rfl, cal_95⟩, rfl, gw_95, gw_96, gw_97, _, rfl, rfl⟩) <| 
  mA0 rfl <| 
  mA0 rfl <| 
  mA0 rfl <| 
  mA0 rfl <| 
  mA0 rfl <| 
  mA1 rfl (⟨⟨Nat.le_of_ble_eq_true rfl, Nat.le_of_ble_eq_true rfl, Nat.le_of_ble_eq_true rfl, cal_186⟩, gw_643, Or.inr ⟨rfl, (fun E => ⟨(100000, 0), rfl, mNone _⟩), _, List.mem_of_getElem? (i := 10) rfl⟩⟩) <| 
  mA0 rfl <| 
  mA0 rfl <| 
  mA0 rfl <| 
  mA1 rfl (⟨⟨Nat.le_of_ble_eq_true rfl, Nat.le_of_ble_eq_true rfl, Nat.le_of_ble_eq_true rfl, cal_187⟩, gw_646, Or.inr ⟨rfl, (fun E => ⟨(100000, 0), rfl, mNone _⟩), _, List.mem_of_getElem? (i := 11) rfl⟩⟩) <| 
  mA1 rfl (⟨⟨Nat.le_of_ble_eq_true rfl, Nat.le_of_ble_eq_true rfl, Nat.le_of_ble_eq_true rfl, cal_185⟩, gw_77, Or.inr ⟨rfl, (fun E => ⟨(100000, 0), rfl, mNone _⟩), _, List.mem_of_getElem? (i := 0) rfl⟩⟩) <| 
  mA0 rfl <| 
  mA0 rfl <| 
  mA0 rfl <| 
  mA1 rfl (Or.inr ⟨by decide, rfl⟩) <| 
  mA0 rfl <| 
  mA0 rfl <| 
  mA0 rfl <| 
  mA0 rfl <| 
  mA0 rfl <| 
  mA1 rfl (Or.inr ⟨by decide, rfl⟩) <| trivial

theorem mc_120 : mAllP 120 mt_120 :=
  mA0 rfl <| 
  mA0 rfl <| 
  mA1 rfl (⟨⟨Nat.le_of_ble_eq_true rfl, Nat.le_of_ble_eq_true rfl, Nat.le_of_ble_eq_true rfl, cal_121⟩, rfl, gw_867, gw_869, gs_121, _, rfl, rfl⟩) <| 
  mA0 rfl <| 
  mA0 rfl <| 
  mA1 rfl (⟨⟨Nat.le_of_ble_eq_true rfl, Nat.le_of_ble_eq_true rfl, Nat.le_of_ble_eq_true rfl, cal_122⟩, rfl, gw_877, gw_879, gs_122, _, rfl, rfl⟩) <| 
  mA0 rfl <| 
  mA0 rfl <| 
  mA0 rfl <| 
  mA0 rfl <| 
  mA1 rfl (⟨_, rfl, Nat.le_of_ble_eq_true rfl, gw_104, rfl⟩) <| 
  mA0 rfl <| 
  mA1 rfl (⟨⟨Nat.le_of_ble_eq_true rfl, Nat.le_of_ble_eq_true rfl, Nat.le_of_ble_eq_true rfl, cal_97⟩, rfl, gw_79, gw_80, gw_81, _, rfl, rfl⟩) <| 
  mA0 rfl <| 
  mA1 rfl (⟨_, rfl, Nat.le_of_ble_eq_true rfl, gw_105, rfl⟩) <| 
  mA0 rfl <| 
  mA1 rfl (⟨⟨Nat.le_of_ble_eq_true rfl, Nat.le_of_ble_eq_true rfl, Nat.le_of_ble_eq_true rfl, cal_97⟩, rfl, gw_79, gw_80, gw_81, _, rfl, rfl⟩) <| 
  mA0 rfl <| 
  mA0 rfl <| 
  mA0 rfl <| 
  mA0 rfl <| 
  mA0 rfl <| 
  mA0 rfl <| 
  mA0 rfl <| 
  mA0 rfl <| 
  mA0 rfl <| 
  mA0 rfl <| 
  mA0 rfl <| 
  mA0 rfl <| 
  mA1 rfl (⟨⟨Nat.le_of_ble_eq_true rfl, Nat.le_of_ble_eq_true rfl, Nat.le_of_ble_eq_true rfl, cal_124⟩, rfl, gw_881, gw_883, gs_124, _, rfl, rfl⟩) <| 
  mA0 rfl <| 
  mA0 rfl <| 
  mA0 rfl <| 
  mA0 rfl <| 
  mA0 rfl <| 
  mA0 rfl <| 
  mA0 rfl <| 
  mA0 rfl <| 
  mA0 rfl <| 
  mA1 rfl (⟨⟨Nat.le_of_ble_eq_true rfl, Nat.le_of_ble_eq_true rfl, Nat.le_of_ble_eq_true rfl, cal_123⟩, rfl, gw_886, gw_888, gs_123, _, rfl, rfl⟩) <| 
  mA0 rfl <| 
  mA1 rfl (⟨_, rfl, Nat.le_of_ble_eq_true rfl, gw_106, rfl⟩) <| 
  mA0 rfl <| 
  mA1 rfl (⟨⟨Nat.le_of_ble_eq_true rfl, Nat.le_of_ble_eq_true rfl, Nat.le_of_ble_eq_true rfl, cal_97⟩, rfl, gw_79, gw_80, gw_81, _, rfl, rfl⟩) <| 
  mA0 rfl <| 
  mA1 rfl (⟨_, rfl, Nat.le_of_ble_eq_true rfl, gw_107, rfl⟩) <| 
  mA0 rfl <| 
  mA1 rfl (⟨⟨Nat.le_of_ble_eq_true rfl, Nat.le_of_ble_eq_true rfl, Nat.le_of_ble_eq_true rfl, cal_97⟩, rfl, gw_79, gw_80, gw_81, _, rfl, rfl⟩) <| 
  mA0 rfl <| 
  mA1 rfl (⟨_, rfl, Nat.le_of_ble_eq_true rfl, gw_108, rfl⟩) <| 
  mA0 rfl <| 
  mA1 rfl (⟨⟨Nat.le_of_ble_eq_true rfl, Nat.le_of_ble_eq_true rfl, Nat.le_of_ble_eq_true rfl, cal_97⟩, rfl, gw_79, gw_80, gw_81, _, rfl, rfl⟩) <| 
  mA0 rfl <| 
  mA1 rfl (⟨⟨Nat.le_of_ble_eq_true rfl, Nat.le_of_ble_eq_true rfl, Nat.le_of_ble_eq_true rfl, cal_107⟩, rfl, gw_83, gw_85, gs_107, _, rfl, rfl⟩) <| 
  mA1 rfl (rfl) <| trivial

theorem mc_121 : mAllP 121 mt_121 :=
  mA0 rfl <| 
  mA1 rfl (⟨_, rfl, Nat.le_of_ble_eq_true rfl, gw_99, rfl⟩) <| 
  mA0 rfl <| 
  mA1 rfl (⟨⟨Nat.le_of_ble_eq_true rfl, Nat.le_of_ble_eq_true rfl, Nat.le_of_ble_eq_true rfl, cal_103⟩, rfl, gw_766, gw_660, gw_661, _, rfl, rfl⟩) <| 
  mA0 rfl <| 
  mA0 rfl <| 
  mA0 rfl <| 
  mA0 rfl <| 
  mA0 rfl <| 
  mA1 rfl (⟨_, rfl, Nat.le_of_ble_eq_true rfl, gw_100, rfl⟩) <| 
  mA0 rfl <| 
  mA0 rfl <| 
  mA0 rfl <| 
  mA0 rfl <| 
  mA1 rfl (⟨_, rfl, Nat.le_of_ble_eq_true rfl, gw_100, rfl⟩) <| 
  mA0 rfl <| 
  mA1 rfl (⟨⟨Nat.le_of_ble_eq_true rfl, Nat.le_of_ble_eq_true rfl, Nat.le_of_ble_eq_true rfl, cal_95⟩, rfl, gw_95, gw_96, gw_97, _, rfl, rfl⟩) <| 
  mA0 rfl <| 
  mA1 rfl (⟨_, rfl, Nat.le_of_ble_eq_true rfl, gw_100, rfl⟩) <| 
  mA0 rfl <| 
  mA0 rfl <| 
  mA0 rfl <| 
  mA1 rfl (⟨⟨Nat.le_of_ble_eq_true rfl, Nat.le_of_ble_eq_true rfl, Nat.le_of_ble_eq_true rfl, cal_95⟩, rfl, gw_95, gw_96, gw_97, _, rfl, rfl⟩) <| 
  mA1 rfl (⟨⟨Nat.le_of_ble_eq_true rfl, Nat.le_of_ble_eq_true rfl, Nat.le_of_ble_eq_true rfl, cal_330⟩, gw_840, Or.inl gw_871⟩) <| 
  mA1 rfl (⟨⟨Nat.le_of_ble_eq_true rfl, Nat.le_of_ble_eq_true rfl, Nat.le_of_ble_eq_true rfl, cal_96⟩, rfl, gw_872, gw_592, gw_593, _, rfl, rfl⟩) <| 
  mA0 rfl <| 
  mA1 rfl (⟨_, rfl, Nat.le_of_ble_eq_true rfl, gw_99, rfl⟩) <| 
  mA0 rfl <| 
  mA1 rfl (⟨⟨Nat.le_of_ble_eq_true rfl, Nat.le_of_ble_eq_true rfl, Nat.le_of_ble_eq_true rfl, cal_99⟩, rfl, gw_873, gw_874, gw_875, _, rfl, rfl⟩) <| 
  mA0 rfl <| 
  mA1 rfl (⟨_, rfl, Nat.le_of_ble_eq_true rfl, gw_100, rfl⟩) <| 
  mA0 rfl <| 
  mA1 rfl (⟨⟨Nat.le_of_ble_eq_true rfl, Nat.le_of_ble_eq_true rfl, Nat.le_of_ble_eq_true rfl, cal_99⟩, rfl, gw_873, gw_874, gw_875, _, rfl, rfl⟩) <| 
  mA1 rfl (rfl) <| trivial

theorem mc_122 : mAllP 122 mt_122 :=
  mA0 rfl <| 
  mA1 rfl (⟨_, rfl, Nat.le_of_ble_eq_true rfl, gw_104, rfl⟩) <| 
  mA0 rfl <| 
  mA1 rfl (⟨⟨Nat.le_of_ble_eq_true rfl, Nat.le_of_ble_eq_true rfl, Nat.le_of_ble_eq_true rfl, cal_103⟩, rfl, gw_766, gw_660, gw_661, _, rfl, rfl⟩) <| 
  mA0 rfl <| 
  mA0 rfl <| 
  mA1 rfl (⟨_, rfl, Nat.le_of_ble_eq_true rfl, gw_104, rfl⟩) <| 
  mA0 rfl <| 
  mA1 rfl (⟨⟨Nat.le_of_ble_eq_true rfl, Nat.le_of_ble_eq_true rfl, Nat.le_of_ble_eq_true rfl, cal_99⟩, rfl, gw_873, gw_874, gw_875, _, rfl, rfl⟩) <| 
  mA0 rfl <| 
  mA1 rfl (⟨_, rfl, Nat.le_of_ble_eq_true rfl, gw_105, rfl⟩) <| 
  mA0 rfl <| 
  mA1 rfl (⟨⟨Nat.le_of_ble_eq_true rfl, Nat.le_of_ble_eq_true rfl, Nat.le_of_ble_eq_true rfl, cal_99⟩, rfl, gw_873, gw_874, gw_875, _, rfl, rfl⟩) <| 
  mA1 rfl (rfl) <| trivial

theorem mc_123 : mAllP 123 mt_123 :=
  mA0 rfl <| 
  mA1 rfl (⟨_, rfl, Nat.le_of_ble_eq_true rfl, gw_99, rfl⟩) <| 
  mA0 rfl <| 
  mA1 rfl (⟨⟨Nat.le_of_ble_eq_true rfl, Nat.le_of_ble_eq_true rfl, Nat.le_of_ble_eq_true rfl, cal_103⟩, rfl, gw_766, gw_660, gw_661, _, rfl, rfl⟩) <| 
  mA0 rfl <| 
  mA0 rfl <| 
  mA0 rfl <| 
  mA0 rfl <| 
  mA0 rfl <| 
  mA1 rfl (⟨_, rfl, Nat.le_of_ble_eq_true rfl, gw_99, rfl⟩) <| 
  mA1 rfl (⟨⟨Nat.le_of_ble_eq_true rfl, Nat.le_of_ble_eq_true rfl, Nat.le_of_ble_eq_true rfl, cal_93⟩, rfl, gw_91, gw_92, gw_93, _, rfl, rfl⟩) <| 
  mA0 rfl <| 
  mA0 rfl <| 
  mA1 rfl (⟨_, rfl, Nat.le_of_ble_eq_true rfl, gw_100, rfl⟩) <| 
  mA0 rfl <| 
  mA1 rfl (⟨⟨Nat.le_of_ble_eq_true rfl, Nat.le_of_ble_eq_true rfl, Nat.le_of_ble_eq_true rfl, cal_95⟩, rfl, gw_95, gw_96, gw_97, _, rfl, rfl⟩) <| 
  mA0 rfl <| 
  mA0 rfl <| 
  mA0 rfl <| 
  mA0 rfl <| 
  mA0 rfl <| 
  mA1 rfl (⟨_, rfl, Nat.le_of_ble_eq_true rfl, gw_99, rfl⟩) <| 
  mA0 rfl <| 
  mA0 rfl <| 
  mA1 rfl (⟨⟨Nat.le_of_ble_eq_true rfl, Nat.le_of_ble_eq_true rfl, Nat.le_of_ble_eq_true rfl, cal_98⟩, rfl, gw_885, gw_846, gw_847, _, rfl, rfl⟩) <| 
  mA0 rfl <| 
  mA1 rfl (⟨_, rfl, Nat.le_of_ble_eq_true rfl, gw_100, rfl⟩) <| 
  mA0 rfl <| 
  mA0 rfl <| 
  mA1 rfl (⟨⟨Nat.le_of_ble_eq_true rfl, Nat.le_of_ble_eq_true rfl, Nat.le_of_ble_eq_true rfl, cal_98⟩, rfl, gw_885, gw_846, gw_847, _, rfl, rfl⟩) <| 
  mA1 rfl (rfl) <| trivial

theorem mc_124 : mAllP 124 mt_124 :=
  mA0 rfl <| 
  mA1 rfl (⟨_, rfl, Nat.le_of_ble_eq_true rfl, gw_99, rfl⟩) <| 
  mA0 rfl <| 
  mA1 rfl (⟨⟨Nat.le_of_ble_eq_true rfl, Nat.le_of_ble_eq_true rfl, Nat.le_of_ble_eq_true rfl, cal_103⟩, rfl, gw_766, gw_660, gw_661, _, rfl, rfl⟩) <| 
  mA0 rfl <| 
  mA0 rfl <| 
  mA0 rfl <| 
  mA0 rfl <| 
  mA1 rfl (⟨_, rfl, Nat.le_of_ble_eq_true rfl, gw_100, rfl⟩) <| 
  mA0 rfl <| 
  mA1 rfl (⟨⟨Nat.le_of_ble_eq_true rfl, Nat.le_of_ble_eq_true rfl, Nat.le_of_ble_eq_true rfl, cal_95⟩, rfl, gw_95, gw_96, gw_97, _, rfl, rfl⟩) <| 
  mA0 rfl <| 
  mA0 rfl <| 
  mA0 rfl <| 
  mA0 rfl <| 
  mA0 rfl <| 
  mA1 rfl (⟨_, rfl, Nat.le_of_ble_eq_true rfl, gw_99, rfl⟩) <| 
  mA0 rfl <| 
  mA0 rfl <| 
  mA1 rfl (⟨⟨Nat.le_of_ble_eq_true rfl, Nat.le_of_ble_eq_true rfl, Nat.le_of_ble_eq_true rfl, cal_98⟩, rfl, gw_885, gw_846, gw_847, _, rfl, rfl⟩) <| 
  mA0 rfl <| 
  mA1 rfl (⟨_, rfl, Nat.le_of_ble_eq_true rfl, gw_100, rfl⟩) <| 
  mA0 rfl <| 
  mA0 rfl <| 
  mA1 rfl (⟨_, rfl, Nat.le_of_ble_eq_true rfl, gw_100, rfl⟩) <| 
  mA0 rfl <| 
  mA1 rfl (⟨⟨Nat.le_of_ble_eq_true rfl, Nat.le_of_ble_eq_true rfl, Nat.le_of_ble_eq_true rfl, cal_95⟩, rfl, gw_95, gw_96, gw_97, _, rfl, rfl⟩) <| 
  mA1 rfl (⟨⟨Nat.le_of_ble_eq_true rfl, Nat.le_of_ble_eq_true rfl, Nat.le_of_ble_eq_true rfl, cal_98⟩, rfl, gw_885, gw_846, gw_847, _, rfl, rfl⟩) <| 
  mA0 rfl <| 
  mA1 rfl (⟨_, rfl, Nat.le_of_ble_eq_true rfl, gw_100, rfl⟩) <| 
  mA0 rfl <| 
  mA0 rfl <| 
  mA0 rfl <| 
  mA0 rfl <| 
  mA1 rfl (⟨⟨Nat.le_of_ble_eq_true rfl, Nat.le_of_ble_eq_true rfl, Nat.le_of_ble_eq_true rfl, cal_96⟩, rfl, gw_872, gw_592, gw_593, _, rfl, rfl⟩) <| 
  mA1 rfl (rfl) <| trivial

theorem mc_125 : mAllP 125 mt_125 :=
  mA0 rfl <| 
  mA0 rfl <| 
  mA0 rfl <| 
  mA0 rfl <| 
  mA1 rfl (⟨_, rfl, Nat.le_of_ble_eq_true rfl, gw_106, rfl⟩) <| 
  mA1 rfl (⟨⟨Nat.le_of_ble_eq_true rfl, Nat.le_of_ble_eq_true rfl, Nat.le_of_ble_eq_true rfl, cal_93⟩, rfl, gw_91, gw_92, gw_93, _, rfl, rfl⟩) <| 
  mA0 rfl <| 
  mA0 rfl <| 
  mA0 rfl <| 
  mA1 rfl (⟨_, rfl, Nat.le_of_ble_eq_true rfl, gw_106, rfl⟩) <| 
  mA0 rfl <| 
  mA1 rfl (⟨⟨Nat.le_of_ble_eq_true rfl, Nat.le_of_ble_eq_true rfl, Nat.le_of_ble_eq_true rfl, cal_95⟩, rfl, gw_95, gw_96, gw_97, _, rfl, rfl⟩) <| 
  mA0 rfl <| 
  mA1 rfl (⟨_, rfl, Nat.le_of_ble_eq_true rfl, gw_107, rfl⟩) <| 
  mA0 rfl <| 
  mA1 rfl (⟨⟨Nat.le_of_ble_eq_true rfl, Nat.le_of_ble_eq_true rfl, Nat.le_of_ble_eq_true rfl, cal_95⟩, rfl, gw_95, gw_96, gw_97, _, rfl, rfl⟩) <| 
  mA0 rfl <| 
  mA1 rfl (⟨_, rfl, Nat.le_of_ble_eq_true rfl, gw_108, rfl⟩) <| 
  mA0 rfl <| 
  mA1 rfl (⟨⟨Nat.le_of_ble_eq_true rfl, Nat.le_of_ble_eq_true rfl, Nat.le_of_ble_eq_true rfl, cal_95⟩, rfl, gw_95, gw_96, gw_97, _, rfl, rfl⟩) <| 
  mA1 rfl (⟨⟨Nat.le_of_ble_eq_true rfl, Nat.le_of_ble_eq_true rfl, Nat.le_of_ble_eq_true rfl, cal_116⟩, rfl, gw_911, gw_636, gw_637, _, rfl, rfl⟩) <| 
  mA0 rfl <| 
  mA0 rfl <| 
  mA1 rfl (Or.inr ⟨by decide, rfl⟩) <| 
  mA0 rfl <| 
  mA0 rfl <| 
  mA1 rfl (⟨_, rfl, Nat.le_of_ble_eq_true rfl, gw_106, rfl⟩) <| 
  mA0 rfl <| 
  mA1 rfl (⟨⟨Nat.le_of_ble_eq_true rfl, Nat.le_of_ble_eq_true rfl, Nat.le_of_ble_eq_true rfl, cal_95⟩, rfl, gw_95, gw_96, gw_97, _, rfl, rfl⟩) <| 
  mA0 rfl <| 
  mA1 rfl (⟨_, rfl, Nat.le_of_ble_eq_true rfl, gw_107, rfl⟩) <| 
  mA0 rfl <| 
  mA1 rfl (⟨⟨Nat.le_of_ble_eq_true rfl, Nat.le_of_ble_eq_true rfl, Nat.le_of_ble_eq_true rfl, cal_95⟩, rfl, gw_95, gw_96, gw_97, _, rfl, rfl⟩) <| 
  mA0 rfl <| 
  mA1 rfl (⟨_, rfl, Nat.le_of_ble_eq_true rfl, gw_108, rfl⟩) <| 
  mA0 rfl <| 
  mA1 rfl (⟨⟨Nat.le_of_ble_eq_true rfl, Nat.le_of_ble_eq_true rfl, Nat.le_of_ble_eq_true rfl, cal_95⟩, rfl, gw_95, gw_96, gw_97, _, rfl, rfl⟩) <| 
  mA1 rfl (⟨⟨Nat.le_of_ble_eq_true rfl, Nat.le_of_ble_eq_true rfl, Nat.le_of_ble_eq_true rfl, cal_120⟩, rfl, gw_912, gw_864, gw_865, _, rfl, rfl⟩) <| 
  mA0 rfl <| 
  mA0 rfl <| 
  mA0 rfl <| 
  mA1 rfl (Or.inr ⟨by decide, rfl⟩) <| trivial

theorem mc_126 : mAllP 126 mt_126 :=
  mA0 rfl <| 
  mA1 rfl (⟨_, rfl, Nat.le_of_ble_eq_true rfl, gw_99, rfl⟩) <| 
  mA0 rfl <| 
  mA1 rfl (⟨_, rfl, Nat.le_of_ble_eq_true rfl, gw_99, rfl⟩) <| 
  mA1 rfl (⟨⟨Nat.le_of_ble_eq_true rfl, Nat.le_of_ble_eq_true rfl, Nat.le_of_ble_eq_true rfl, cal_102⟩, rfl, gw_906, gw_858, gw_859, _, rfl, rfl⟩) <| 
  mA0 rfl <| 
  mA1 rfl (⟨_, rfl, Nat.le_of_ble_eq_true rfl, gw_100, rfl⟩) <| 
  mA0 rfl <| 
  mA1 rfl (⟨_, rfl, Nat.le_of_ble_eq_true rfl, gw_100, rfl⟩) <| 
  mA1 rfl (⟨⟨Nat.le_of_ble_eq_true rfl, Nat.le_of_ble_eq_true rfl, Nat.le_of_ble_eq_true rfl, cal_102⟩, rfl, gw_906, gw_858, gw_859, _, rfl, rfl⟩) <| 
  mA0 rfl <| 
  mA1 rfl (⟨_, rfl, Nat.le_of_ble_eq_true rfl, gw_104, rfl⟩) <| 
  mA0 rfl <| 
  mA1 rfl (⟨_, rfl, Nat.le_of_ble_eq_true rfl, gw_104, rfl⟩) <| 
  mA1 rfl (⟨⟨Nat.le_of_ble_eq_true rfl, Nat.le_of_ble_eq_true rfl, Nat.le_of_ble_eq_true rfl, cal_102⟩, rfl, gw_906, gw_858, gw_859, _, rfl, rfl⟩) <| 
  mA0 rfl <| 
  mA1 rfl (⟨_, rfl, Nat.le_of_ble_eq_true rfl, gw_105, rfl⟩) <| 
  mA0 rfl <| 
  mA1 rfl (⟨_, rfl, Nat.le_of_ble_eq_true rfl, gw_105, rfl⟩) <| 
  mA1 rfl (⟨⟨Nat.le_of_ble_eq_true rfl, Nat.le_of_ble_eq_true rfl, Nat.le_of_ble_eq_true rfl, cal_102⟩, rfl, gw_906, gw_858, gw_859, _, rfl, rfl⟩) <| 
  mA0 rfl <| 
  mA1 rfl (⟨_, rfl, Nat.le_of_ble_eq_true rfl, gw_106, rfl⟩) <| 
  mA0 rfl <| 
  mA1 rfl (⟨_, rfl, Nat.le_of_ble_eq_true rfl, gw_106, rfl⟩) <| 
  mA1 rfl (⟨⟨Nat.le_of_ble_eq_true rfl, Nat.le_of_ble_eq_true rfl, Nat.le_of_ble_eq_true rfl, cal_102⟩, rfl, gw_906, gw_858, gw_859, _, rfl, rfl⟩) <| 
  mA0 rfl <| 
  mA1 rfl (⟨_, rfl, Nat.le_of_ble_eq_true rfl, gw_107, rfl⟩) <| 
  mA0 rfl <| 
  mA1 rfl (⟨_, rfl, Nat.le_of_ble_eq_true rfl, gw_107, rfl⟩) <| 
  mA1 rfl (⟨⟨Nat.le_of_ble_eq_true rfl, Nat.le_of_ble_eq_true rfl, Nat.le_of_ble_eq_true rfl, cal_102⟩, rfl, gw_906, gw_858, gw_859, _, rfl, rfl⟩) <| 
  mA0 rfl <| 
  mA1 rfl (⟨_, rfl, Nat.le_of_ble_eq_true rfl, gw_108, rfl⟩) <| 
  mA0 rfl <| 
  mA1 rfl (⟨_, rfl, Nat.le_of_ble_eq_true rfl, gw_108, rfl⟩) <| 
  mA1 rfl (⟨⟨Nat.le_of_ble_eq_true rfl, Nat.le_of_ble_eq_true rfl, Nat.le_of_ble_eq_true rfl, cal_102⟩, rfl, gw_906, gw_858, gw_859, _, rfl, rfl⟩) <| 
  mA0 rfl <| 
  mA1 rfl (⟨⟨Nat.le_of_ble_eq_true rfl, Nat.le_of_ble_eq_true rfl, Nat.le_of_ble_eq_true rfl, cal_107⟩, rfl, gw_83, gw_85, gs_107, _, rfl, rfl⟩) <| 
  mA1 rfl (rfl) <| trivial

theorem mc_127_0 : mAllP 127 mt_127_0 :=
  mA0 rfl <| 
  mA1 rfl (⟨gw_26, gw_27, gw_28, Nat.le_of_ble_eq_true rfl, Nat.le_of_ble_eq_true rfl⟩) <| 
  mA0 rfl <| 
  mA1 rfl (⟨_, rfl, gw_29, gw_30, gw_2⟩) <| 
  mA0 rfl <| 
  mA1 rfl (⟨⟨Nat.le_of_ble_eq_true rfl, Nat.le_of_ble_eq_true rfl, Nat.le_of_ble_eq_true rfl, cal_12⟩, rfl, rfl, (fun E => ⟨(100000, 0), rfl, mNone _⟩), gw_32, rfl, Or.inl gw_31⟩) <| 
  mA1 rfl (⟨_, rfl, Nat.le_of_ble_eq_true rfl, gw_301, rfl, Or.inr ⟨rfl, ini_127, rfl⟩⟩) <| 
  mA0 rfl <| 
  mA1 rfl (⟨_, rfl, gw_46, gw_47, gw_3⟩) <| 
  mA0 rfl <| 
  mA0 rfl <| 
  mA1 rfl (⟨⟨Nat.le_of_ble_eq_true rfl, Nat.le_of_ble_eq_true rfl, Nat.le_of_ble_eq_true rfl, cal_92⟩, rfl, rfl, (fun E => ⟨(100000, 0), rfl, mNone _⟩), gw_49, rfl, Or.inl gw_48⟩) <| 
  mA1 rfl (⟨_, rfl, Nat.le_of_ble_eq_true rfl, gw_302, rfl, Or.inr ⟨rfl, ini_127, rfl⟩⟩) <| 
  mA0 rfl <| 
  mA1 rfl (⟨_, rfl, gw_46, gw_47, gw_3⟩) <| 
  mA0 rfl <| 
  mA0 rfl <| 
  mA1 rfl (⟨⟨Nat.le_of_ble_eq_true rfl, Nat.le_of_ble_eq_true rfl, Nat.le_of_ble_eq_true rfl, cal_92⟩, rfl, rfl, (fun E => ⟨(100000, 0), rfl, mNone _⟩), gw_49, rfl, Or.inl gw_48⟩) <| 
  mA1 rfl (⟨_, rfl, Nat.le_of_ble_eq_true rfl, gw_303, rfl, Or.inr ⟨rfl, ini_127, rfl⟩⟩) <| 
  mA0 rfl <| 
  mA0 rfl <| 
  mA1 rfl (⟨Nat.le_of_ble_eq_true rfl, Nat.le_of_ble_eq_true rfl, _, rfl, gw_46⟩) <| 
  mA1 rfl (⟨_, rfl, Nat.le_of_ble_eq_true rfl, gw_304, rfl, Or.inr ⟨rfl, ini_127, rfl⟩⟩) <| 
  mA0 rfl <| 
  mA0 rfl <| 
  mA1 rfl (⟨Nat.le_of_ble_eq_true rfl, Nat.le_of_ble_eq_true rfl, _, rfl, gw_63⟩) <| 
  mA1 rfl (⟨_, rfl, Nat.le_of_ble_eq_true rfl, gw_306, rfl, Or.inr ⟨rfl, ini_127, rfl⟩⟩) <| 
  mA0 rfl <| 
  mA1 rfl (⟨_, rfl, gw_63, gw_65, gw_5⟩) <| 
  mA0 rfl <| 
  mA1 rfl (⟨⟨Nat.le_of_ble_eq_true rfl, Nat.le_of_ble_eq_true rfl, Nat.le_of_ble_eq_true rfl, cal_105⟩, rfl, rfl, (fun E => ⟨(100000, 0), rfl, mNone _⟩), gw_67, rfl, Or.inl gw_66⟩) <| 
  mA1 rfl (⟨_, rfl, Nat.le_of_ble_eq_true rfl, gw_307, rfl, Or.inr ⟨rfl, ini_127, rfl⟩⟩) <| 
  mA0 rfl <| 
  mA0 rfl <| 
  mA1 rfl (gw_133) <| 
  mA1 rfl (⟨_, rfl, Nat.le_of_ble_eq_true rfl, gw_308, rfl, Or.inr ⟨rfl, ini_127, rfl⟩⟩) <| 
  mA0 rfl <| 
  mA0 rfl <| 
  mA1 rfl (⟨Nat.le_of_ble_eq_true rfl, Nat.le_of_ble_eq_true rfl, _, rfl, gw_134⟩) <| 
  mA1 rfl (⟨_, rfl, Nat.le_of_ble_eq_true rfl, gw_309, rfl, Or.inr ⟨rfl, ini_127, rfl⟩⟩) <| 
  mA0 rfl <| 
  mA0 rfl <| 
  mA1 rfl (⟨Nat.le_of_ble_eq_true rfl, Nat.le_of_ble_eq_true rfl, _, rfl, gw_136⟩) <| 
  mA1 rfl (⟨_, rfl, Nat.le_of_ble_eq_true rfl, gw_311, rfl, Or.inr ⟨rfl, ini_127, rfl⟩⟩) <| 
  mA0 rfl <| 
  mA1 rfl (⟨_, rfl, gw_138, gw_139, gw_6⟩) <| 
  mA0 rfl <| 
  mA1 rfl (⟨⟨Nat.le_of_ble_eq_true rfl, Nat.le_of_ble_eq_true rfl, Nat.le_of_ble_eq_true rfl, cal_24⟩, rfl, rfl, (fun E => ⟨(100000, 0), rfl, mNone _⟩), gw_141, rfl, Or.inl gw_140⟩) <| 
  mA1 rfl (⟨_, rfl, Nat.le_of_ble_eq_true rfl, gw_312, rfl, Or.inr ⟨rfl, ini_127, rfl⟩⟩) <| 
  mA0 rfl <| 
  mA1 rfl (⟨_, rfl, gw_156, gw_157, gw_7⟩) <| 
  mA0 rfl <| 
  mA1 rfl (⟨⟨Nat.le_of_ble_eq_true rfl, Nat.le_of_ble_eq_true rfl, Nat.le_of_ble_eq_true rfl, cal_86⟩, rfl, rfl, (fun E => ⟨(100000, 0), rfl, mNone _⟩), gw_159, rfl, Or.inr ⟨_, List.mem_of_getElem? (i := 1) rfl⟩⟩) <| 
  mA1 rfl (⟨_, rfl, Nat.le_of_ble_eq_true rfl, gw_313, rfl, Or.inr ⟨rfl, ini_127, rfl⟩⟩) <| 
  mA0 rfl <| 
  mA0 rfl <| 
  mA1 rfl (⟨_, rfl, Nat.le_of_ble_eq_true rfl, gw_314, rfl, Or.inl rfl⟩) <| 
  mA0 rfl <| 
  mA0 rfl <| 
  mA1 rfl (⟨_, rfl, Nat.le_of_ble_eq_true rfl, gw_315, rfl, Or.inl rfl⟩) <| 
  mA0 rfl <| 
  mA1 rfl (⟨_, rfl, gw_171, gw_172, gw_8⟩) <| 
  mA0 rfl <| 
  mA1 rfl (⟨⟨Nat.le_of_ble_eq_true rfl, Nat.le_of_ble_eq_true rfl, Nat.le_of_ble_eq_true rfl, cal_0⟩, rfl, rfl, (fun E => ⟨(100000, 0), rfl, mNone _⟩), gw_174, rfl, Or.inr ⟨_, List.mem_of_getElem? (i := 2) rfl⟩⟩) <| 
  mA1 rfl (⟨_, rfl, Nat.le_of_ble_eq_true rfl, gw_316, rfl, Or.inr ⟨rfl, ini_127, rfl⟩⟩) <| 
  mA0 rfl <| 
  mA0 rfl <| 
  mA1 rfl (⟨Nat.le_of_ble_eq_true rfl, Nat.le_of_ble_eq_true rfl, _, rfl, gw_46⟩) <| 
  mA1 rfl (⟨_, rfl, Nat.le_of_ble_eq_true rfl, gw_317, rfl, Or.inr ⟨rfl, ini_127, rfl⟩⟩) <| 
  mA0 rfl <| 
  mA1 rfl (⟨_, rfl, gw_46, gw_47, gw_3⟩) <| 
  mA0 rfl <| 
  mA0 rfl <| 
  mA1 rfl (⟨⟨Nat.le_of_ble_eq_true rfl, Nat.le_of_ble_eq_true rfl, Nat.le_of_ble_eq_true rfl, cal_92⟩, rfl, rfl, (fun E => ⟨(100000, 0), rfl, mNone _⟩), gw_49, rfl, Or.inl gw_48⟩) <| 
  mA1 rfl (⟨_, rfl, Nat.le_of_ble_eq_true rfl, gw_318, rfl, Or.inr ⟨rfl, ini_127, rfl⟩⟩) <| 
  mA0 rfl <| 
  mA1 rfl (⟨_, rfl, gw_46, gw_47, gw_3⟩) <| 
  mA0 rfl <| 
  mA0 rfl <| 
  mA1 rfl (⟨⟨Nat.le_of_ble_eq_true rfl, Nat.le_of_ble_eq_true rfl, Nat.le_of_ble_eq_true rfl, cal_92⟩, rfl, rfl, (fun E => ⟨(100000, 0), rfl, mNone _⟩), gw_49, rfl, Or.inl gw_48⟩) <| 
  mA1 rfl (⟨_, rfl, Nat.le_of_ble_eq_true rfl, gw_319, rfl, Or.inr ⟨rfl, ini_127, rfl⟩⟩) <| 
  mA0 rfl <| 
  mA1 rfl (⟨_, rfl, gw_228, gw_229, gw_10⟩) <| 
  mA0 rfl <| 
  mA1 rfl (⟨⟨Nat.le_of_ble_eq_true rfl, Nat.le_of_ble_eq_true rfl, Nat.le_of_ble_eq_true rfl, cal_71⟩, rfl, rfl, (fun E => ⟨(100000, 0), rfl, mNone _⟩), gw_231, rfl, Or.inr ⟨_, List.mem_of_getElem? (i := 4) rfl⟩⟩) <| 
  mA1 rfl (⟨_, rfl, Nat.le_of_ble_eq_true rfl, gw_320, rfl, Or.inr ⟨rfl, ini_127, rfl⟩⟩) <| 
  mA0 rfl <| 
  mA0 rfl <| 
  mA0 rfl <| 
  mA0 rfl <| 
  mA0 rfl <| 
  mA0 rfl <| 
  mA1 rfl (⟨_, rfl, Nat.le_of_ble_eq_true rfl, gw_304, rfl⟩) <| 
  mA0 rfl <| 
  mA1 rfl (⟨_, rfl, gw_46, gw_47, gw_3⟩) <| 
  mA0 rfl <| 
  mA0 rfl <| 
  mA1 rfl (⟨⟨Nat.le_of_ble_eq_true rfl, Nat.le_of_ble_eq_true rfl, Nat.le_of_ble_eq_true rfl, cal_92⟩, rfl, rfl, (fun E => ⟨(100000, 0), rfl, mNone _⟩), gw_49, rfl, Or.inl gw_48⟩) <| 
  mA1 rfl (⟨Nat.le_of_ble_eq_true rfl, Nat.le_of_ble_eq_true rfl, _, rfl, rfl⟩) <| 
  mA0 rfl <| 
  mA1 rfl (⟨_, rfl, Nat.le_of_ble_eq_true rfl, gw_317, rfl⟩) <| 
  mA0 rfl <| 
  mA1 rfl (⟨_, rfl, gw_46, gw_47, gw_3⟩) <| 
  mA0 rfl <| 
  mA0 rfl <| 
  mA1 rfl (⟨⟨Nat.le_of_ble_eq_true rfl, Nat.le_of_ble_eq_true rfl, Nat.le_of_ble_eq_true rfl, cal_92⟩, rfl, rfl, (fun E => ⟨(100000, 0), rfl, mNone _⟩), gw_49, rfl, Or.inl gw_48⟩) <| 
  mA1 rfl (⟨Nat.le_of_ble_eq_true rfl, Nat.le_of_ble_eq_true rfl, _, rfl, rfl⟩) <| 
  mA0 rfl <| 
  mA0 rfl <| 
  mA0 rfl <| 
  mA0 rfl <| 
  mA0 rfl <| 
  mA0 rfl <| 
  mA0 rfl <| 
  mA0 rfl <| 
  mA1 rfl (⟨_, rfl, Nat.le_of_ble_eq_true rfl, gw_306, rfl⟩) <| 
  mA0 rfl <| 
  mA1 rfl (⟨_, rfl, gw_63, gw_65, gw_5⟩) <| 
  mA0 rfl <| 
  mA1 rfl (⟨⟨Nat.le_of_ble_eq_true rfl, Nat.le_of_ble_eq_true rfl, Nat.le_of_ble_eq_true rfl, cal_105⟩, rfl, rfl, (fun E => ⟨(100000, 0), rfl, mNone _⟩), gw_67, rfl, Or.inl gw_66⟩) <| trivial

theorem mc_127_1 : mAllP 127 mt_127_1 :=
  mA1 rfl (⟨Nat.le_of_ble_eq_true rfl, Nat.le_of_ble_eq_true rfl, _, rfl, rfl⟩) <| 
  mA0 rfl <| 
  mA1 rfl (⟨_, rfl, Nat.le_of_ble_eq_true rfl, gw_311, rfl⟩) <| 
  mA0 rfl <| 
  mA1 rfl (⟨_, rfl, gw_136, gw_246, gw_11⟩) <| 
  mA0 rfl <| 
  mA1 rfl (⟨⟨Nat.le_of_ble_eq_true rfl, Nat.le_of_ble_eq_true rfl, Nat.le_of_ble_eq_true rfl, cal_77⟩, rfl, rfl, (fun E => ⟨(100000, 0), rfl, mNone _⟩), gw_248, rfl, Or.inr ⟨_, List.mem_of_getElem? (i := 5) rfl⟩⟩) <| 
  mA1 rfl (⟨Nat.le_of_ble_eq_true rfl, Nat.le_of_ble_eq_true rfl, _, rfl, rfl⟩) <| 
  mA0 rfl <| 
  mA0 rfl <| 
  mA0 rfl <| 
  mA0 rfl <| 
  mA0 rfl <| 
  mA0 rfl <| 
  mA0 rfl <| 
  mA0 rfl <| 
  mA1 rfl (⟨_, rfl, Nat.le_of_ble_eq_true rfl, gw_309, rfl⟩) <| 
  mA0 rfl <| 
  mA1 rfl (⟨_, rfl, gw_134, gw_266, gw_12⟩) <| 
  mA0 rfl <| 
  mA1 rfl (⟨⟨Nat.le_of_ble_eq_true rfl, Nat.le_of_ble_eq_true rfl, Nat.le_of_ble_eq_true rfl, cal_48⟩, rfl, rfl, (fun E => ⟨(100000, 0), rfl, mNone _⟩), gw_268, rfl, Or.inr ⟨_, List.mem_of_getElem? (i := 6) rfl⟩⟩) <| 
  mA1 rfl (⟨Nat.le_of_ble_eq_true rfl, Nat.le_of_ble_eq_true rfl, _, rfl, rfl⟩) <| 
  mA0 rfl <| 
  mA0 rfl <| 
  mA1 rfl (rfl) <| trivial

theorem mc_128 : mAllP 128 mt_128 :=
  mA0 rfl <| 
  mA0 rfl <| 
  mA1 rfl (⟨⟨Nat.le_of_ble_eq_true rfl, Nat.le_of_ble_eq_true rfl, Nat.le_of_ble_eq_true rfl, cal_165⟩, rfl, gw_425, gw_427, gs_165, _, rfl, rfl⟩) <| 
  mA0 rfl <| 
  mA1 rfl (⟨Nat.le_of_ble_eq_true rfl, rfl, Nat.le_of_ble_eq_true rfl, Nat.le_of_ble_eq_true rfl, gw_437, gw_17, by decide +kernel, 111, 113, "no such sign", List.mem_of_getElem? (i := 0) rfl, at_0, Or.inl ⟨by decide +kernel, by decide +kernel, by decide +kernel⟩⟩) <| 
  mA0 rfl <| 
  mA1 rfl (⟨_, rfl, Nat.le_of_ble_eq_true rfl, gw_302, rfl⟩) <| 
  mA1 rfl (⟨⟨Nat.le_of_ble_eq_true rfl, Nat.le_of_ble_eq_true rfl, Nat.le_of_ble_eq_true rfl, cal_93⟩, rfl, gw_366, gw_92, gw_93, _, rfl, rfl⟩) <| 
  mA0 rfl <| 
  mA0 rfl <| 
  mA1 rfl (⟨Nat.le_of_ble_eq_true rfl, rfl, Nat.le_of_ble_eq_true rfl, Nat.le_of_ble_eq_true rfl, gw_505, gw_18, by decide +kernel, 122, 124, "the draft is full", List.mem_of_getElem? (i := 1) rfl, at_1, Or.inl ⟨by decide +kernel, by decide +kernel, by decide +kernel⟩⟩) <| 
  mA0 rfl <| 
  mA1 rfl (⟨_, rfl, Nat.le_of_ble_eq_true rfl, gw_302, rfl⟩) <| 
  mA0 rfl <| 
  mA1 rfl (⟨⟨Nat.le_of_ble_eq_true rfl, Nat.le_of_ble_eq_true rfl, Nat.le_of_ble_eq_true rfl, cal_97⟩, rfl, gw_521, gw_80, gw_81, _, rfl, rfl⟩) <| 
  mA0 rfl <| 
  mA1 rfl (⟨_, rfl, Nat.le_of_ble_eq_true rfl, gw_302, rfl⟩) <| 
  mA1 rfl (⟨⟨Nat.le_of_ble_eq_true rfl, Nat.le_of_ble_eq_true rfl, Nat.le_of_ble_eq_true rfl, cal_93⟩, rfl, gw_366, gw_92, gw_93, _, rfl, rfl⟩) <| 
  mA1 rfl (Or.inl ⟨rfl, rfl⟩) <| trivial

theorem mc_129 : mAllP 129 mt_129 :=
  mA0 rfl <| 
  mA0 rfl <| 
  mA0 rfl <| 
  mA0 rfl <| 
  mA0 rfl <| 
  mA0 rfl <| 
  mA0 rfl <| 
  mA1 rfl (⟨_, rfl, Nat.le_of_ble_eq_true rfl, gw_301, rfl⟩) <| 
  mA0 rfl <| 
  mA1 rfl (⟨⟨Nat.le_of_ble_eq_true rfl, Nat.le_of_ble_eq_true rfl, Nat.le_of_ble_eq_true rfl, cal_17⟩, rfl, gw_529, gw_530, gw_531, _, rfl, rfl⟩) <| 
  mA0 rfl <| 
  mA0 rfl <| 
  mA1 rfl (⟨⟨Nat.le_of_ble_eq_true rfl, Nat.le_of_ble_eq_true rfl, Nat.le_of_ble_eq_true rfl, cal_179⟩, gw_537, Or.inl gw_536⟩) <| 
  mA0 rfl <| 
  mA1 rfl (⟨Nat.le_of_ble_eq_true rfl, rfl, Nat.le_of_ble_eq_true rfl, Nat.le_of_ble_eq_true rfl, gw_437, gw_17, by decide +kernel, 134, 113, "no such sign, base or mark", List.mem_of_getElem? (i := 2) rfl, at_0, Or.inl ⟨by decide +kernel, by decide +kernel, by decide +kernel⟩⟩) <| 
  mA0 rfl <| 
  mA1 rfl (⟨_, rfl, Nat.le_of_ble_eq_true rfl, gw_301, rfl⟩) <| 
  mA0 rfl <| 
  mA1 rfl (⟨⟨Nat.le_of_ble_eq_true rfl, Nat.le_of_ble_eq_true rfl, Nat.le_of_ble_eq_true rfl, cal_14⟩, rfl, gw_429, gw_430, gw_431, _, rfl, rfl⟩) <| 
  mA0 rfl <| 
  mA0 rfl <| 
  mA1 rfl (⟨_, rfl, Nat.le_of_ble_eq_true rfl, gw_301, rfl⟩) <| 
  mA0 rfl <| 
  mA0 rfl <| 
  mA1 rfl (⟨⟨Nat.le_of_ble_eq_true rfl, Nat.le_of_ble_eq_true rfl, Nat.le_of_ble_eq_true rfl, cal_19⟩, rfl, gw_540, gw_541, gw_542, _, rfl, rfl⟩) <| 
  mA0 rfl <| 
  mA0 rfl <| 
  mA1 rfl (⟨Nat.le_of_ble_eq_true rfl, rfl, Nat.le_of_ble_eq_true rfl, Nat.le_of_ble_eq_true rfl, gw_505, gw_18, by decide +kernel, 143, 124, "composed already", List.mem_of_getElem? (i := 3) rfl, at_1, Or.inl ⟨by decide +kernel, by decide +kernel, by decide +kernel⟩⟩) <| 
  mA0 rfl <| 
  mA1 rfl (⟨_, rfl, Nat.le_of_ble_eq_true rfl, gw_301, rfl⟩) <| 
  mA0 rfl <| 
  mA0 rfl <| 
  mA0 rfl <| 
  mA1 rfl (⟨⟨Nat.le_of_ble_eq_true rfl, Nat.le_of_ble_eq_true rfl, Nat.le_of_ble_eq_true rfl, cal_18⟩, rfl, gw_545, gw_546, gw_547, _, rfl, rfl⟩) <| 
  mA0 rfl <| 
  mA1 rfl (⟨_, rfl, Nat.le_of_ble_eq_true rfl, gw_301, rfl⟩) <| 
  mA1 rfl (⟨⟨Nat.le_of_ble_eq_true rfl, Nat.le_of_ble_eq_true rfl, Nat.le_of_ble_eq_true rfl, cal_13⟩, rfl, gw_549, gw_550, gw_551, _, rfl, rfl⟩) <| 
  mA1 rfl (Or.inl ⟨rfl, rfl⟩) <| trivial

theorem mc_130 : mAllP 130 mt_130 :=
  mA0 rfl <| 
  mA1 rfl (⟨_, rfl, Nat.le_of_ble_eq_true rfl, gw_302, rfl⟩) <| 
  mA1 rfl (⟨⟨Nat.le_of_ble_eq_true rfl, Nat.le_of_ble_eq_true rfl, Nat.le_of_ble_eq_true rfl, cal_94⟩, rfl, gw_400, gw_401, gw_402, _, rfl, rfl⟩) <| 
  mA0 rfl <| 
  mA0 rfl <| 
  mA1 rfl (⟨_, rfl, Nat.le_of_ble_eq_true rfl, gw_305, rfl⟩) <| 
  mA0 rfl <| 
  mA0 rfl <| 
  mA1 rfl (⟨Nat.le_of_ble_eq_true rfl, rfl, Nat.le_of_ble_eq_true rfl, Nat.le_of_ble_eq_true rfl, gw_505, gw_18, by decide +kernel, 159, 124, "no draft, or too many texts", List.mem_of_getElem? (i := 4) rfl, at_1, Or.inl ⟨by decide +kernel, by decide +kernel, by decide +kernel⟩⟩) <| 
  mA0 rfl <| 
  mA1 rfl (⟨_, rfl, Nat.le_of_ble_eq_true rfl, gw_301, rfl⟩) <| 
  mA0 rfl <| 
  mA1 rfl (⟨_, rfl, Nat.le_of_ble_eq_true rfl, gw_302, rfl⟩) <| 
  mA0 rfl <| 
  mA0 rfl <| 
  mA1 rfl (⟨_, rfl, Nat.le_of_ble_eq_true rfl, gw_305, rfl⟩) <| 
  mA1 rfl (⟨⟨Nat.le_of_ble_eq_true rfl, Nat.le_of_ble_eq_true rfl, Nat.le_of_ble_eq_true rfl, cal_169⟩, rfl, gw_561, gw_563, gs_169, _, rfl, rfl⟩) <| 
  mA1 rfl (⟨⟨Nat.le_of_ble_eq_true rfl, Nat.le_of_ble_eq_true rfl, Nat.le_of_ble_eq_true rfl, cal_20⟩, rfl, gw_565, gw_566, gw_567, _, rfl, rfl⟩) <| 
  mA0 rfl <| 
  mA1 rfl (⟨_, rfl, Nat.le_of_ble_eq_true rfl, gw_302, rfl⟩) <| 
  mA1 rfl (⟨⟨Nat.le_of_ble_eq_true rfl, Nat.le_of_ble_eq_true rfl, Nat.le_of_ble_eq_true rfl, cal_100⟩, rfl, gw_367, gw_88, gw_89, _, rfl, rfl⟩) <| 
  mA0 rfl <| 
  mA0 rfl <| 
  mA1 rfl (⟨_, rfl, Nat.le_of_ble_eq_true rfl, gw_305, rfl⟩) <| 
  mA0 rfl <| 
  mA0 rfl <| 
  mA1 rfl (⟨_, rfl, Nat.le_of_ble_eq_true rfl, gw_305, rfl, Or.inl rfl⟩) <| 
  mA0 rfl <| 
  mA1 rfl (⟨_, rfl, Nat.le_of_ble_eq_true rfl, gw_305, rfl⟩) <| 
  mA0 rfl <| 
  mA0 rfl <| 
  mA1 rfl (Or.inl ⟨rfl, rfl⟩) <| trivial

theorem mc_131 : mAllP 131 mt_131 :=
  mA0 rfl <| 
  mA1 rfl (⟨_, rfl, Nat.le_of_ble_eq_true rfl, gw_302, rfl⟩) <| 
  mA1 rfl (⟨⟨Nat.le_of_ble_eq_true rfl, Nat.le_of_ble_eq_true rfl, Nat.le_of_ble_eq_true rfl, cal_93⟩, rfl, gw_366, gw_92, gw_93, _, rfl, rfl⟩) <| 
  mA0 rfl <| 
  mA0 rfl <| 
  mA1 rfl (⟨_, rfl, Nat.le_of_ble_eq_true rfl, gw_302, rfl⟩) <| 
  mA1 rfl (⟨⟨Nat.le_of_ble_eq_true rfl, Nat.le_of_ble_eq_true rfl, Nat.le_of_ble_eq_true rfl, cal_100⟩, rfl, gw_367, gw_88, gw_89, _, rfl, rfl⟩) <| 
  mA0 rfl <| 
  mA1 rfl (Or.inl ⟨rfl, rfl⟩) <| trivial

theorem mc_132 : mAllP 132 mt_132 :=
  mA0 rfl <| 
  mA1 rfl (⟨_, rfl, Nat.le_of_ble_eq_true rfl, gw_302, rfl⟩) <| 
  mA1 rfl (⟨⟨Nat.le_of_ble_eq_true rfl, Nat.le_of_ble_eq_true rfl, Nat.le_of_ble_eq_true rfl, cal_94⟩, rfl, gw_400, gw_401, gw_402, _, rfl, rfl⟩) <| 
  mA0 rfl <| 
  mA1 rfl (⟨Nat.le_of_ble_eq_true rfl, rfl, Nat.le_of_ble_eq_true rfl, Nat.le_of_ble_eq_true rfl, gw_505, gw_18, by decide +kernel, 172, 124, "no draft", List.mem_of_getElem? (i := 5) rfl, at_1, Or.inl ⟨by decide +kernel, by decide +kernel, by decide +kernel⟩⟩) <| 
  mA0 rfl <| 
  mA1 rfl (⟨_, rfl, Nat.le_of_ble_eq_true rfl, gw_301, rfl⟩) <| 
  mA0 rfl <| 
  mA1 rfl (⟨_, rfl, Nat.le_of_ble_eq_true rfl, gw_302, rfl⟩) <| 
  mA0 rfl <| 
  mA1 rfl (⟨_, rfl, Nat.le_of_ble_eq_true rfl, gw_303, rfl⟩) <| 
  mA1 rfl (⟨⟨Nat.le_of_ble_eq_true rfl, Nat.le_of_ble_eq_true rfl, Nat.le_of_ble_eq_true rfl, cal_20⟩, rfl, gw_565, gw_566, gw_567, _, rfl, rfl⟩) <| 
  mA0 rfl <| 
  mA1 rfl (⟨_, rfl, Nat.le_of_ble_eq_true rfl, gw_302, rfl⟩) <| 
  mA1 rfl (⟨⟨Nat.le_of_ble_eq_true rfl, Nat.le_of_ble_eq_true rfl, Nat.le_of_ble_eq_true rfl, cal_100⟩, rfl, gw_367, gw_88, gw_89, _, rfl, rfl⟩) <| 
  mA0 rfl <| 
  mA1 rfl (⟨_, rfl, Nat.le_of_ble_eq_true rfl, gw_303, rfl⟩) <| 
  mA1 rfl (⟨⟨Nat.le_of_ble_eq_true rfl, Nat.le_of_ble_eq_true rfl, Nat.le_of_ble_eq_true rfl, cal_93⟩, rfl, gw_366, gw_92, gw_93, _, rfl, rfl⟩) <| 
  mA1 rfl (Or.inl ⟨rfl, rfl⟩) <| trivial

theorem mc_133 : mAllP 133 mt_133 :=
  mA0 rfl <| 
  mA1 rfl (⟨⟨Nat.le_of_ble_eq_true rfl, Nat.le_of_ble_eq_true rfl, Nat.le_of_ble_eq_true rfl, cal_174⟩, gw_612, Or.inl gw_611⟩) <| 
  mA0 rfl <| 
  mA1 rfl (⟨Nat.le_of_ble_eq_true rfl, rfl, Nat.le_of_ble_eq_true rfl, Nat.le_of_ble_eq_true rfl, gw_437, gw_17, by decide +kernel, 177, 113, "no such tailoring", List.mem_of_getElem? (i := 6) rfl, at_0, Or.inl ⟨by decide +kernel, by decide +kernel, by decide +kernel⟩⟩) <| 
  mA0 rfl <| 
  mA0 rfl <| 
  mA0 rfl <| 
  mA0 rfl <| 
  mA0 rfl <| 
  mA1 rfl (⟨Nat.le_of_ble_eq_true rfl, rfl, Nat.le_of_ble_eq_true rfl, Nat.le_of_ble_eq_true rfl, gw_615, gw_19, by decide +kernel, 181, 183, "no such rule", List.mem_of_getElem? (i := 7) rfl, at_2, Or.inl ⟨by decide +kernel, by decide +kernel, by decide +kernel⟩⟩) <| 
  mA0 rfl <| 
  mA1 rfl (⟨_, rfl, Nat.le_of_ble_eq_true rfl, gw_306, rfl⟩) <| 
  mA0 rfl <| 
  mA1 rfl (⟨Nat.le_of_ble_eq_true rfl, Nat.le_of_ble_eq_true rfl⟩) <| 
  mA0 rfl <| 
  mA0 rfl <| 
  mA1 rfl (⟨_, rfl, Nat.le_of_ble_eq_true rfl, gw_301, rfl⟩) <| 
  mA0 rfl <| 
  mA1 rfl (⟨_, rfl, Nat.le_of_ble_eq_true rfl, gw_302, rfl⟩) <| 
  mA0 rfl <| 
  mA1 rfl (⟨_, rfl, Nat.le_of_ble_eq_true rfl, gw_318, rfl⟩) <| 
  mA1 rfl (⟨⟨Nat.le_of_ble_eq_true rfl, Nat.le_of_ble_eq_true rfl, Nat.le_of_ble_eq_true rfl, cal_20⟩, rfl, gw_565, gw_566, gw_567, _, rfl, rfl⟩) <| 
  mA0 rfl <| 
  mA1 rfl (⟨_, rfl, Nat.le_of_ble_eq_true rfl, gw_303, rfl⟩) <| 
  mA0 rfl <| 
  mA0 rfl <| 
  mA1 rfl (⟨_, rfl, Nat.le_of_ble_eq_true rfl, gw_303, rfl⟩) <| 
  mA1 rfl (⟨⟨Nat.le_of_ble_eq_true rfl, Nat.le_of_ble_eq_true rfl, Nat.le_of_ble_eq_true rfl, cal_93⟩, rfl, gw_366, gw_92, gw_93, _, rfl, rfl⟩) <| 
  mA1 rfl (⟨⟨Nat.le_of_ble_eq_true rfl, Nat.le_of_ble_eq_true rfl, Nat.le_of_ble_eq_true rfl, cal_184⟩, gw_632, Or.inl gw_631⟩) <| 
  mA0 rfl <| 
  mA0 rfl <| 
  mA1 rfl (⟨_, rfl, Nat.le_of_ble_eq_true rfl, gw_318, rfl⟩) <| 
  mA0 rfl <| 
  mA0 rfl <| 
  mA1 rfl (⟨_, rfl, Nat.le_of_ble_eq_true rfl, gw_318, rfl⟩) <| 
  mA1 rfl (⟨⟨Nat.le_of_ble_eq_true rfl, Nat.le_of_ble_eq_true rfl, Nat.le_of_ble_eq_true rfl, cal_93⟩, rfl, gw_366, gw_92, gw_93, _, rfl, rfl⟩) <| 
  mA1 rfl (⟨⟨Nat.le_of_ble_eq_true rfl, Nat.le_of_ble_eq_true rfl, Nat.le_of_ble_eq_true rfl, cal_184⟩, gw_632, Or.inl gw_631⟩) <| 
  mA0 rfl <| 
  mA0 rfl <| 
  mA0 rfl <| 
  mA0 rfl <| 
  mA0 rfl <| 
  mA1 rfl (⟨⟨Nat.le_of_ble_eq_true rfl, Nat.le_of_ble_eq_true rfl, Nat.le_of_ble_eq_true rfl, cal_116⟩, rfl, gw_635, gw_636, gw_637, _, rfl, rfl⟩) <| 
  mA0 rfl <| 
  mA1 rfl (⟨Nat.le_of_ble_eq_true rfl, rfl, Nat.le_of_ble_eq_true rfl, Nat.le_of_ble_eq_true rfl, gw_505, gw_18, by decide +kernel, 192, 124, "the rule is not possible", List.mem_of_getElem? (i := 8) rfl, at_1, Or.inl ⟨by decide +kernel, by decide +kernel, by decide +kernel⟩⟩) <| 
  mA0 rfl <| 
  mA1 rfl (⟨_, rfl, Nat.le_of_ble_eq_true rfl, gw_311, rfl⟩) <| 
  mA0 rfl <| 
  mA1 rfl (⟨Nat.le_of_ble_eq_true rfl, Nat.le_of_ble_eq_true rfl⟩) <| 
  mA0 rfl <| 
  mA0 rfl <| 
  mA1 rfl (⟨⟨Nat.le_of_ble_eq_true rfl, Nat.le_of_ble_eq_true rfl, Nat.le_of_ble_eq_true rfl, cal_188⟩, rfl, gw_668, gw_670, gs_188, _, rfl, rfl⟩) <| 
  mA1 rfl (⟨⟨Nat.le_of_ble_eq_true rfl, Nat.le_of_ble_eq_true rfl, Nat.le_of_ble_eq_true rfl, cal_85⟩, rfl, gw_853, gw_854, gw_855, _, rfl, rfl⟩) <| 
  mA0 rfl <| 
  mA0 rfl <| 
  mA0 rfl <| 
  mA0 rfl <| 
  mA1 rfl (⟨⟨Nat.le_of_ble_eq_true rfl, Nat.le_of_ble_eq_true rfl, Nat.le_of_ble_eq_true rfl, cal_120⟩, rfl, gw_863, gw_864, gw_865, _, rfl, rfl⟩) <| 
  mA0 rfl <| 
  mA1 rfl (⟨_, rfl, Nat.le_of_ble_eq_true rfl, gw_303, rfl⟩) <| 
  mA1 rfl (⟨⟨Nat.le_of_ble_eq_true rfl, Nat.le_of_ble_eq_true rfl, Nat.le_of_ble_eq_true rfl, cal_100⟩, rfl, gw_367, gw_88, gw_89, _, rfl, rfl⟩) <| 
  mA0 rfl <| 
  mA1 rfl (⟨_, rfl, Nat.le_of_ble_eq_true rfl, gw_302, rfl⟩) <| 
  mA1 rfl (⟨⟨Nat.le_of_ble_eq_true rfl, Nat.le_of_ble_eq_true rfl, Nat.le_of_ble_eq_true rfl, cal_100⟩, rfl, gw_367, gw_88, gw_89, _, rfl, rfl⟩) <| 
  mA0 rfl <| 
  mA1 rfl (⟨⟨Nat.le_of_ble_eq_true rfl, Nat.le_of_ble_eq_true rfl, Nat.le_of_ble_eq_true rfl, cal_111⟩, rfl, gw_890, gw_891, gw_892, _, rfl, rfl⟩) <| 
  mA1 rfl (Or.inl ⟨rfl, rfl⟩) <| trivial

theorem mc_134 : mAllP 134 mt_134 :=
  mA0 rfl <| 
  mA1 rfl (⟨⟨Nat.le_of_ble_eq_true rfl, Nat.le_of_ble_eq_true rfl, Nat.le_of_ble_eq_true rfl, cal_174⟩, gw_612, Or.inl gw_611⟩) <| 
  mA0 rfl <| 
  mA0 rfl <| 
  mA1 rfl (⟨⟨Nat.le_of_ble_eq_true rfl, Nat.le_of_ble_eq_true rfl, Nat.le_of_ble_eq_true rfl, cal_174⟩, gw_612, Or.inl gw_611⟩) <| 
  mA0 rfl <| 
  mA1 rfl (⟨Nat.le_of_ble_eq_true rfl, rfl, Nat.le_of_ble_eq_true rfl, Nat.le_of_ble_eq_true rfl, gw_437, gw_17, by decide +kernel, 177, 113, "no such tailoring", List.mem_of_getElem? (i := 6) rfl, at_0, Or.inl ⟨by decide +kernel, by decide +kernel, by decide +kernel⟩⟩) <| 
  mA0 rfl <| 
  mA0 rfl <| 
  mA0 rfl <| 
  mA1 rfl (⟨Nat.le_of_ble_eq_true rfl, rfl, Nat.le_of_ble_eq_true rfl, Nat.le_of_ble_eq_true rfl, gw_615, gw_19, by decide +kernel, 205, 183, "both are the same", List.mem_of_getElem? (i := 9) rfl, at_2, Or.inl ⟨by decide +kernel, by decide +kernel, by decide +kernel⟩⟩) <| 
  mA0 rfl <| 
  mA1 rfl (⟨_, rfl, Nat.le_of_ble_eq_true rfl, gw_307, rfl⟩) <| 
  mA0 rfl <| 
  mA1 rfl (⟨_, rfl, Nat.le_of_ble_eq_true rfl, gw_306, rfl⟩) <| 
  mA0 rfl <| 
  mA1 rfl (⟨Nat.le_of_ble_eq_true rfl, Nat.le_of_ble_eq_true rfl⟩) <| 
  mA1 rfl (⟨⟨Nat.le_of_ble_eq_true rfl, Nat.le_of_ble_eq_true rfl, Nat.le_of_ble_eq_true rfl, cal_126⟩, rfl, gw_902, gw_903, gw_904, _, rfl, rfl⟩) <| 
  mA0 rfl <| 
  mA1 rfl (⟨_, rfl, Nat.le_of_ble_eq_true rfl, gw_307, rfl⟩) <| 
  mA0 rfl <| 
  mA1 rfl (⟨_, rfl, Nat.le_of_ble_eq_true rfl, gw_306, rfl⟩) <| 
  mA0 rfl <| 
  mA1 rfl (⟨Nat.le_of_ble_eq_true rfl, Nat.le_of_ble_eq_true rfl⟩) <| 
  mA1 rfl (⟨⟨Nat.le_of_ble_eq_true rfl, Nat.le_of_ble_eq_true rfl, Nat.le_of_ble_eq_true rfl, cal_125⟩, rfl, gw_907, gw_908, gw_909, _, rfl, rfl⟩) <| 
  mA0 rfl <| 
  mA1 rfl (⟨Nat.le_of_ble_eq_true rfl, rfl, Nat.le_of_ble_eq_true rfl, Nat.le_of_ble_eq_true rfl, gw_505, gw_18, by decide +kernel, 215, 124, "a rule is not possible", List.mem_of_getElem? (i := 10) rfl, at_1, Or.inl ⟨by decide +kernel, by decide +kernel, by decide +kernel⟩⟩) <| 
  mA0 rfl <| 
  mA1 rfl (⟨_, rfl, Nat.le_of_ble_eq_true rfl, gw_311, rfl⟩) <| 
  mA0 rfl <| 
  mA1 rfl (⟨Nat.le_of_ble_eq_true rfl, Nat.le_of_ble_eq_true rfl⟩) <| 
  mA0 rfl <| 
  mA0 rfl <| 
  mA1 rfl (⟨⟨Nat.le_of_ble_eq_true rfl, Nat.le_of_ble_eq_true rfl, Nat.le_of_ble_eq_true rfl, cal_188⟩, rfl, gw_668, gw_670, gs_188, _, rfl, rfl⟩) <| 
  mA1 rfl (⟨⟨Nat.le_of_ble_eq_true rfl, Nat.le_of_ble_eq_true rfl, Nat.le_of_ble_eq_true rfl, cal_85⟩, rfl, gw_853, gw_854, gw_855, _, rfl, rfl⟩) <| 
  mA0 rfl <| 
  mA1 rfl (⟨_, rfl, Nat.le_of_ble_eq_true rfl, gw_306, rfl⟩) <| 
  mA0 rfl <| 
  mA1 rfl (⟨Nat.le_of_ble_eq_true rfl, Nat.le_of_ble_eq_true rfl⟩) <| 
  mA0 rfl <| 
  mA1 rfl (⟨_, rfl, Nat.le_of_ble_eq_true rfl, gw_307, rfl⟩) <| 
  mA1 rfl (⟨⟨Nat.le_of_ble_eq_true rfl, Nat.le_of_ble_eq_true rfl, Nat.le_of_ble_eq_true rfl, cal_126⟩, rfl, gw_902, gw_903, gw_904, _, rfl, rfl⟩) <| 
  mA0 rfl <| 
  mA1 rfl (⟨_, rfl, Nat.le_of_ble_eq_true rfl, gw_306, rfl⟩) <| 
  mA0 rfl <| 
  mA1 rfl (⟨Nat.le_of_ble_eq_true rfl, Nat.le_of_ble_eq_true rfl⟩) <| 
  mA1 rfl (⟨⟨Nat.le_of_ble_eq_true rfl, Nat.le_of_ble_eq_true rfl, Nat.le_of_ble_eq_true rfl, cal_111⟩, rfl, gw_890, gw_891, gw_892, _, rfl, rfl⟩) <| 
  mA1 rfl (Or.inl ⟨rfl, rfl⟩) <| trivial

theorem mc_135 : mAllP 135 mt_135 :=
  mA0 rfl <| 
  mA1 rfl (⟨⟨Nat.le_of_ble_eq_true rfl, Nat.le_of_ble_eq_true rfl, Nat.le_of_ble_eq_true rfl, cal_174⟩, gw_612, Or.inl gw_611⟩) <| 
  mA0 rfl <| 
  mA0 rfl <| 
  mA0 rfl <| 
  mA0 rfl <| 
  mA0 rfl <| 
  mA0 rfl <| 
  mA1 rfl (⟨Nat.le_of_ble_eq_true rfl, rfl, Nat.le_of_ble_eq_true rfl, Nat.le_of_ble_eq_true rfl, gw_437, gw_17, by decide +kernel, 217, 113, "no such tailoring or option", List.mem_of_getElem? (i := 11) rfl, at_0, Or.inl ⟨by decide +kernel, by decide +kernel, by decide +kernel⟩⟩) <| 
  mA0 rfl <| 
  mA1 rfl (⟨_, rfl, Nat.le_of_ble_eq_true rfl, gw_311, rfl⟩) <| 
  mA0 rfl <| 
  mA1 rfl (⟨Nat.le_of_ble_eq_true rfl, Nat.le_of_ble_eq_true rfl⟩) <| 
  mA0 rfl <| 
  mA0 rfl <| 
  mA1 rfl (⟨⟨Nat.le_of_ble_eq_true rfl, Nat.le_of_ble_eq_true rfl, Nat.le_of_ble_eq_true rfl, cal_188⟩, rfl, gw_668, gw_670, gs_188, _, rfl, rfl⟩) <| 
  mA1 rfl (⟨⟨Nat.le_of_ble_eq_true rfl, Nat.le_of_ble_eq_true rfl, Nat.le_of_ble_eq_true rfl, cal_85⟩, rfl, gw_853, gw_854, gw_855, _, rfl, rfl⟩) <| 
  mA0 rfl <| 
  mA1 rfl (⟨_, rfl, Nat.le_of_ble_eq_true rfl, gw_306, rfl⟩) <| 
  mA0 rfl <| 
  mA1 rfl (⟨Nat.le_of_ble_eq_true rfl, Nat.le_of_ble_eq_true rfl⟩) <| 
  mA0 rfl <| 
  mA1 rfl (⟨⟨Nat.le_of_ble_eq_true rfl, Nat.le_of_ble_eq_true rfl, Nat.le_of_ble_eq_true rfl, cal_108⟩, rfl, gw_922, gw_754, gw_755, _, rfl, rfl⟩) <| 
  mA0 rfl <| 
  mA0 rfl <| 
  mA1 rfl (⟨_, rfl, Nat.le_of_ble_eq_true rfl, gw_306, rfl⟩) <| 
  mA0 rfl <| 
  mA1 rfl (⟨Nat.le_of_ble_eq_true rfl, Nat.le_of_ble_eq_true rfl⟩) <| 
  mA0 rfl <| 
  mA0 rfl <| 
  mA1 rfl (⟨⟨Nat.le_of_ble_eq_true rfl, Nat.le_of_ble_eq_true rfl, Nat.le_of_ble_eq_true rfl, cal_109⟩, rfl, gw_923, gw_924, gw_925, _, rfl, rfl⟩) <| 
  mA0 rfl <| 
  mA1 rfl (Or.inr ⟨by decide, rfl⟩) <| trivial

theorem mc_136 : mAllP 136 mt_136 :=
  mA0 rfl <| 
  mA0 rfl <| 
  mA0 rfl <| 
  mA0 rfl <| 
  mA0 rfl <| 
  mA1 rfl (⟨Nat.le_of_ble_eq_true rfl, rfl, Nat.le_of_ble_eq_true rfl, Nat.le_of_ble_eq_true rfl, gw_437, gw_17, by decide +kernel, 226, 113, "no such letter", List.mem_of_getElem? (i := 12) rfl, at_0, Or.inl ⟨by decide +kernel, by decide +kernel, by decide +kernel⟩⟩) <| 
  mA0 rfl <| 
  mA1 rfl (⟨_, rfl, Nat.le_of_ble_eq_true rfl, gw_308, rfl⟩) <| 
  mA0 rfl <| 
  mA0 rfl <| 
  mA0 rfl <| 
  mA0 rfl <| 
  mA0 rfl <| 
  mA0 rfl <| 
  mA0 rfl <| 
  mA0 rfl <| 
  mA0 rfl <| 
  mA0 rfl <| 
  mA0 rfl <| 
  mA0 rfl <| 
  mA1 rfl (⟨_, rfl, Nat.le_of_ble_eq_true rfl, gw_308, rfl⟩) <| 
  mA0 rfl <| 
  mA0 rfl <| 
  mA0 rfl <| 
  mA0 rfl <| 
  mA0 rfl <| 
  mA0 rfl <| 
  mA0 rfl <| 
  mA0 rfl <| 
  mA0 rfl <| 
  mA0 rfl <| 
  mA0 rfl <| 
  mA1 rfl (Or.inl ⟨rfl, rfl⟩) <| trivial

theorem mc_137 : mAllP 137 mt_137 :=
  mA0 rfl <| 
  mA0 rfl <| 
  mA0 rfl <| 
  mA0 rfl <| 
  mA0 rfl <| 
  mA1 rfl (⟨⟨Nat.le_of_ble_eq_true rfl, Nat.le_of_ble_eq_true rfl, Nat.le_of_ble_eq_true rfl, cal_167⟩, rfl, gw_942, gw_944, gs_167, _, rfl, rfl⟩) <| 
  mA0 rfl <| 
  mA0 rfl <| 
  mA0 rfl <| 
  mA1 rfl (⟨⟨Nat.le_of_ble_eq_true rfl, Nat.le_of_ble_eq_true rfl, Nat.le_of_ble_eq_true rfl, cal_166⟩, rfl, gw_946, gw_948, gs_166, _, rfl, rfl⟩) <| 
  mA0 rfl <| 
  mA1 rfl (⟨Nat.le_of_ble_eq_true rfl, rfl, Nat.le_of_ble_eq_true rfl, Nat.le_of_ble_eq_true rfl, gw_437, gw_17, by decide +kernel, 234, 113, "no such entry or text", List.mem_of_getElem? (i := 13) rfl, at_0, Or.inl ⟨by decide +kernel, by decide +kernel, by decide +kernel⟩⟩) <| 
  mA0 rfl <| 
  mA0 rfl <| 
  mA0 rfl <| 
  mA0 rfl <| 
  mA0 rfl <| 
  mA0 rfl <| 
  mA1 rfl (⟨Nat.le_of_ble_eq_true rfl, rfl, Nat.le_of_ble_eq_true rfl, Nat.le_of_ble_eq_true rfl, gw_615, gw_19, by decide +kernel, 236, 183, "no such indexes", List.mem_of_getElem? (i := 14) rfl, at_2, Or.inl ⟨by decide +kernel, by decide +kernel, by decide +kernel⟩⟩) <| 
  mA0 rfl <| 
  mA0 rfl <| 
  mA0 rfl <| 
  mA0 rfl <| 
  mA0 rfl <| 
  mA1 rfl (⟨⟨Nat.le_of_ble_eq_true rfl, Nat.le_of_ble_eq_true rfl, Nat.le_of_ble_eq_true rfl, cal_171⟩, rfl, gw_388, gw_390, gs_171, _, rfl, rfl⟩) <| 
  mA1 rfl (⟨⟨Nat.le_of_ble_eq_true rfl, Nat.le_of_ble_eq_true rfl, Nat.le_of_ble_eq_true rfl, cal_52⟩, rfl, gw_828, gw_829, gw_830, _, rfl, rfl⟩) <| 
  mA0 rfl <| 
  mA0 rfl <| 
  mA1 rfl (⟨_, rfl, Nat.le_of_ble_eq_true rfl, gw_310, rfl⟩) <| 
  mA0 rfl <| 
  mA0 rfl <| 
  mA1 rfl (⟨Nat.le_of_ble_eq_true rfl, rfl, Nat.le_of_ble_eq_true rfl, Nat.le_of_ble_eq_true rfl, gw_505, gw_18, by decide +kernel, 248, 124, "the parent has one, or too many entries", List.mem_of_getElem? (i := 15) rfl, at_1, Or.inl ⟨by decide +kernel, by decide +kernel, by decide +kernel⟩⟩) <| 
  mA0 rfl <| 
  mA0 rfl <| 
  mA0 rfl <| 
  mA0 rfl <| 
  mA0 rfl <| 
  mA0 rfl <| 
  mA0 rfl <| 
  mA1 rfl (⟨⟨Nat.le_of_ble_eq_true rfl, Nat.le_of_ble_eq_true rfl, Nat.le_of_ble_eq_true rfl, cal_171⟩, rfl, gw_388, gw_390, gs_171, _, rfl, rfl⟩) <| 
  mA1 rfl (⟨⟨Nat.le_of_ble_eq_true rfl, Nat.le_of_ble_eq_true rfl, Nat.le_of_ble_eq_true rfl, cal_53⟩, rfl, gw_953, gw_954, gw_955, _, rfl, rfl⟩) <| 
  mA0 rfl <| 
  mA0 rfl <| 
  mA0 rfl <| 
  mA1 rfl (⟨_, rfl, Nat.le_of_ble_eq_true rfl, gw_310, rfl⟩) <| 
  mA1 rfl (⟨⟨Nat.le_of_ble_eq_true rfl, Nat.le_of_ble_eq_true rfl, Nat.le_of_ble_eq_true rfl, cal_171⟩, rfl, gw_388, gw_390, gs_171, _, rfl, rfl⟩) <| 
  mA0 rfl <| 
  mA0 rfl <| 
  mA0 rfl <| 
  mA1 rfl (⟨⟨Nat.le_of_ble_eq_true rfl, Nat.le_of_ble_eq_true rfl, Nat.le_of_ble_eq_true rfl, cal_49⟩, rfl, gw_957, gw_958, gw_959, _, rfl, rfl⟩) <| 
  mA0 rfl <| 
  mA0 rfl <| 
  mA1 rfl (⟨_, rfl, Nat.le_of_ble_eq_true rfl, gw_310, rfl⟩) <| 
  mA0 rfl <| 
  mA0 rfl <| 
  mA1 rfl (⟨_, rfl, Nat.le_of_ble_eq_true rfl, gw_310, rfl, Or.inl rfl⟩) <| 
  mA0 rfl <| 
  mA1 rfl (⟨⟨Nat.le_of_ble_eq_true rfl, Nat.le_of_ble_eq_true rfl, Nat.le_of_ble_eq_true rfl, cal_189⟩, rfl, gw_961, gw_963, gs_189, _, rfl, rfl⟩) <| 
  mA0 rfl <| 
  mA1 rfl (⟨_, rfl, Nat.le_of_ble_eq_true rfl, gw_310, rfl⟩) <| 
  mA0 rfl <| 
  mA0 rfl <| 
  mA1 rfl (Or.inl ⟨rfl, rfl⟩) <| trivial

theorem mc_138 : mAllP 138 mt_138 :=
  mA0 rfl <| 
  mA0 rfl <| 
  mA1 rfl (⟨⟨Nat.le_of_ble_eq_true rfl, Nat.le_of_ble_eq_true rfl, Nat.le_of_ble_eq_true rfl, cal_167⟩, rfl, gw_942, gw_944, gs_167, _, rfl, rfl⟩) <| 
  mA0 rfl <| 
  mA1 rfl (⟨Nat.le_of_ble_eq_true rfl, rfl, Nat.le_of_ble_eq_true rfl, Nat.le_of_ble_eq_true rfl, gw_437, gw_17, by decide +kernel, 259, 113, "no such entry", List.mem_of_getElem? (i := 16) rfl, at_0, Or.inr ⟨by decide +kernel, by decide +kernel, by decide +kernel⟩⟩) <| 
  mA0 rfl <| 
  mA0 rfl <| 
  mA1 rfl (⟨⟨Nat.le_of_ble_eq_true rfl, Nat.le_of_ble_eq_true rfl, Nat.le_of_ble_eq_true rfl, cal_171⟩, rfl, gw_388, gw_390, gs_171, _, rfl, rfl⟩) <| 
  mA0 rfl <| 
  mA0 rfl <| 
  mA0 rfl <| 
  mA0 rfl <| 
  mA0 rfl <| 
  mA0 rfl <| 
  mA0 rfl <| 
  mA0 rfl <| 
  mA0 rfl <| 
  mA0 rfl <| 
  mA0 rfl <| 
  mA0 rfl <| 
  mA0 rfl <| 
  mA1 rfl (⟨⟨Nat.le_of_ble_eq_true rfl, Nat.le_of_ble_eq_true rfl, Nat.le_of_ble_eq_true rfl, cal_50⟩, rfl, gw_693, gw_694, gw_695, _, rfl, rfl⟩) <| 
  mA1 rfl (⟨⟨Nat.le_of_ble_eq_true rfl, Nat.le_of_ble_eq_true rfl, Nat.le_of_ble_eq_true rfl, cal_169⟩, rfl, gw_561, gw_563, gs_169, _, rfl, rfl⟩) <| 
  mA1 rfl (⟨⟨Nat.le_of_ble_eq_true rfl, Nat.le_of_ble_eq_true rfl, Nat.le_of_ble_eq_true rfl, cal_93⟩, rfl, gw_366, gw_92, gw_93, _, rfl, rfl⟩) <| 
  mA0 rfl <| 
  mA0 rfl <| 
  mA0 rfl <| 
  mA0 rfl <| 
  mA0 rfl <| 
  mA0 rfl <| 
  mA0 rfl <| 
  mA0 rfl <| 
  mA0 rfl <| 
  mA0 rfl <| 
  mA0 rfl <| 
  mA0 rfl <| 
  mA0 rfl <| 
  mA0 rfl <| 
  mA0 rfl <| 
  mA1 rfl (⟨Nat.le_of_ble_eq_true rfl, rfl, Nat.le_of_ble_eq_true rfl, Nat.le_of_ble_eq_true rfl, gw_615, gw_19, by decide +kernel, 264, 183, "no such form", List.mem_of_getElem? (i := 17) rfl, at_2, Or.inr ⟨by decide +kernel, by decide +kernel, by decide +kernel⟩⟩) <| 
  mA0 rfl <| 
  mA1 rfl (⟨⟨Nat.le_of_ble_eq_true rfl, Nat.le_of_ble_eq_true rfl, Nat.le_of_ble_eq_true rfl, cal_55⟩, rfl, gw_978, gw_979, gw_980, _, rfl, rfl⟩) <| 
  mA0 rfl <| 
  mA0 rfl <| 
  mA0 rfl <| 
  mA0 rfl <| 
  mA1 rfl (⟨⟨Nat.le_of_ble_eq_true rfl, Nat.le_of_ble_eq_true rfl, Nat.le_of_ble_eq_true rfl, cal_58⟩, rfl, gw_982, gw_983, gw_984, _, rfl, rfl⟩) <| 
  mA0 rfl <| 
  mA1 rfl (⟨⟨Nat.le_of_ble_eq_true rfl, Nat.le_of_ble_eq_true rfl, Nat.le_of_ble_eq_true rfl, cal_189⟩, rfl, gw_961, gw_963, gs_189, _, rfl, rfl⟩) <| 
  mA0 rfl <| 
  mA1 rfl (Or.inl ⟨rfl, rfl⟩) <| trivial

theorem mc_139 : mAllP 139 mt_139 :=
  mA0 rfl <| 
  mA0 rfl <| 
  mA1 rfl (⟨⟨Nat.le_of_ble_eq_true rfl, Nat.le_of_ble_eq_true rfl, Nat.le_of_ble_eq_true rfl, cal_167⟩, rfl, gw_942, gw_944, gs_167, _, rfl, rfl⟩) <| 
  mA0 rfl <| 
  mA1 rfl (⟨Nat.le_of_ble_eq_true rfl, rfl, Nat.le_of_ble_eq_true rfl, Nat.le_of_ble_eq_true rfl, gw_437, gw_17, by decide +kernel, 259, 113, "no such entry", List.mem_of_getElem? (i := 16) rfl, at_0, Or.inr ⟨by decide +kernel, by decide +kernel, by decide +kernel⟩⟩) <| 
  mA0 rfl <| 
  mA1 rfl (⟨⟨Nat.le_of_ble_eq_true rfl, Nat.le_of_ble_eq_true rfl, Nat.le_of_ble_eq_true rfl, cal_176⟩, gw_994, Or.inl gw_993⟩) <| 
  mA0 rfl <| 
  mA0 rfl <| 
  mA0 rfl <| 
  mA0 rfl <| 
  mA0 rfl <| 
  mA0 rfl <| 
  mA1 rfl (⟨Nat.le_of_ble_eq_true rfl, rfl, Nat.le_of_ble_eq_true rfl, Nat.le_of_ble_eq_true rfl, gw_615, gw_19, by decide +kernel, 276, 183, "no such page or sort", List.mem_of_getElem? (i := 18) rfl, at_2, Or.inr ⟨by decide +kernel, by decide +kernel, by decide +kernel⟩⟩) <| 
  mA0 rfl <| 
  mA0 rfl <| 
  mA1 rfl (⟨⟨Nat.le_of_ble_eq_true rfl, Nat.le_of_ble_eq_true rfl, Nat.le_of_ble_eq_true rfl, cal_171⟩, rfl, gw_388, gw_390, gs_171, _, rfl, rfl⟩) <| 
  mA0 rfl <| 
  mA0 rfl <| 
  mA0 rfl <| 
  mA0 rfl <| 
  mA1 rfl (⟨⟨Nat.le_of_ble_eq_true rfl, Nat.le_of_ble_eq_true rfl, Nat.le_of_ble_eq_true rfl, cal_64⟩, rfl, gw_997, gw_998, gw_999, _, rfl, rfl⟩) <| 
  mA0 rfl <| 
  mA0 rfl <| 
  mA1 rfl (Or.inr ⟨by decide, rfl⟩) <| 
  mA0 rfl <| 
  mA1 rfl (⟨⟨Nat.le_of_ble_eq_true rfl, Nat.le_of_ble_eq_true rfl, Nat.le_of_ble_eq_true rfl, cal_59⟩, rfl, gw_396, gw_397, gw_398, _, rfl, rfl⟩) <| 
  mA1 rfl (⟨⟨Nat.le_of_ble_eq_true rfl, Nat.le_of_ble_eq_true rfl, Nat.le_of_ble_eq_true rfl, cal_93⟩, rfl, gw_366, gw_92, gw_93, _, rfl, rfl⟩) <| 
  mA0 rfl <| 
  mA0 rfl <| 
  mA1 rfl (⟨Nat.le_of_ble_eq_true rfl, rfl, Nat.le_of_ble_eq_true rfl, Nat.le_of_ble_eq_true rfl, gw_505, gw_18, by decide +kernel, 286, 124, "too many locators", List.mem_of_getElem? (i := 19) rfl, at_1, Or.inr ⟨by decide +kernel, by decide +kernel, by decide +kernel⟩⟩) <| 
  mA0 rfl <| 
  mA0 rfl <| 
  mA0 rfl <| 
  mA1 rfl (⟨⟨Nat.le_of_ble_eq_true rfl, Nat.le_of_ble_eq_true rfl, Nat.le_of_ble_eq_true rfl, cal_65⟩, rfl, gw_1009, gw_1010, gw_1011, _, rfl, rfl⟩) <| 
  mA0 rfl <| 
  mA1 rfl (Or.inr ⟨by decide, rfl⟩) <| trivial

theorem mc_140 : mAllP 140 mt_140 :=
  mA0 rfl <| 
  mA0 rfl <| 
  mA1 rfl (⟨⟨Nat.le_of_ble_eq_true rfl, Nat.le_of_ble_eq_true rfl, Nat.le_of_ble_eq_true rfl, cal_167⟩, rfl, gw_942, gw_944, gs_167, _, rfl, rfl⟩) <| 
  mA0 rfl <| 
  mA0 rfl <| 
  mA0 rfl <| 
  mA1 rfl (⟨⟨Nat.le_of_ble_eq_true rfl, Nat.le_of_ble_eq_true rfl, Nat.le_of_ble_eq_true rfl, cal_167⟩, rfl, gw_942, gw_944, gs_167, _, rfl, rfl⟩) <| 
  mA0 rfl <| 
  mA1 rfl (⟨Nat.le_of_ble_eq_true rfl, rfl, Nat.le_of_ble_eq_true rfl, Nat.le_of_ble_eq_true rfl, gw_437, gw_17, by decide +kernel, 259, 113, "no such entry", List.mem_of_getElem? (i := 16) rfl, at_0, Or.inr ⟨by decide +kernel, by decide +kernel, by decide +kernel⟩⟩) <| 
  mA0 rfl <| 
  mA0 rfl <| 
  mA0 rfl <| 
  mA1 rfl (⟨Nat.le_of_ble_eq_true rfl, rfl, Nat.le_of_ble_eq_true rfl, Nat.le_of_ble_eq_true rfl, gw_615, gw_19, by decide +kernel, 205, 183, "both are the same", List.mem_of_getElem? (i := 9) rfl, at_2, Or.inl ⟨by decide +kernel, by decide +kernel, by decide +kernel⟩⟩) <| 
  mA0 rfl <| 
  mA0 rfl <| 
  mA1 rfl (⟨⟨Nat.le_of_ble_eq_true rfl, Nat.le_of_ble_eq_true rfl, Nat.le_of_ble_eq_true rfl, cal_171⟩, rfl, gw_388, gw_390, gs_171, _, rfl, rfl⟩) <| 
  mA0 rfl <| 
  mA0 rfl <| 
  mA0 rfl <| 
  mA0 rfl <| 
  mA1 rfl (⟨⟨Nat.le_of_ble_eq_true rfl, Nat.le_of_ble_eq_true rfl, Nat.le_of_ble_eq_true rfl, cal_67⟩, rfl, gw_404, gw_405, gw_406, _, rfl, rfl⟩) <| 
  mA0 rfl <| 
  mA0 rfl <| 
  mA0 rfl <| 
  mA1 rfl (⟨⟨Nat.le_of_ble_eq_true rfl, Nat.le_of_ble_eq_true rfl, Nat.le_of_ble_eq_true rfl, cal_67⟩, rfl, gw_404, gw_405, gw_406, _, rfl, rfl⟩) <| 
  mA0 rfl <| 
  mA0 rfl <| 
  mA1 rfl (⟨Nat.le_of_ble_eq_true rfl, rfl, Nat.le_of_ble_eq_true rfl, Nat.le_of_ble_eq_true rfl, gw_505, gw_18, by decide +kernel, 294, 124, "it sees a third one", List.mem_of_getElem? (i := 20) rfl, at_1, Or.inr ⟨by decide +kernel, by decide +kernel, by decide +kernel⟩⟩) <| 
  mA0 rfl <| 
  mA0 rfl <| 
  mA0 rfl <| 
  mA0 rfl <| 
  mA1 rfl (⟨⟨Nat.le_of_ble_eq_true rfl, Nat.le_of_ble_eq_true rfl, Nat.le_of_ble_eq_true rfl, cal_68⟩, rfl, gw_412, gw_413, gw_414, _, rfl, rfl⟩) <| 
  mA0 rfl <| 
  mA0 rfl <| 
  mA0 rfl <| 
  mA0 rfl <| 
  mA0 rfl <| 
  mA0 rfl <| 
  mA1 rfl (⟨⟨Nat.le_of_ble_eq_true rfl, Nat.le_of_ble_eq_true rfl, Nat.le_of_ble_eq_true rfl, cal_67⟩, rfl, gw_404, gw_405, gw_406, _, rfl, rfl⟩) <| 
  mA0 rfl <| 
  mA0 rfl <| 
  mA0 rfl <| 
  mA0 rfl <| 
  mA0 rfl <| 
  mA0 rfl <| 
  mA0 rfl <| 
  mA0 rfl <| 
  mA0 rfl <| 
  mA1 rfl (⟨⟨Nat.le_of_ble_eq_true rfl, Nat.le_of_ble_eq_true rfl, Nat.le_of_ble_eq_true rfl, cal_70⟩, rfl, gw_1024, gw_1025, gw_1026, _, rfl, rfl⟩) <| 
  mA0 rfl <| 
  mA1 rfl (Or.inr ⟨by decide, rfl⟩) <| trivial

theorem mc_141 : mAllP 141 mt_141 :=
  mA0 rfl <| 
  mA0 rfl <| 
  mA1 rfl (⟨⟨Nat.le_of_ble_eq_true rfl, Nat.le_of_ble_eq_true rfl, Nat.le_of_ble_eq_true rfl, cal_166⟩, rfl, gw_946, gw_948, gs_166, _, rfl, rfl⟩) <| 
  mA0 rfl <| 
  mA1 rfl (⟨Nat.le_of_ble_eq_true rfl, rfl, Nat.le_of_ble_eq_true rfl, Nat.le_of_ble_eq_true rfl, gw_437, gw_17, by decide +kernel, 302, 113, "no such text", List.mem_of_getElem? (i := 21) rfl, at_0, Or.inr ⟨by decide +kernel, by decide +kernel, by decide +kernel⟩⟩) <| 
  mA0 rfl <| 
  mA1 rfl (⟨_, rfl, Nat.le_of_ble_eq_true rfl, gw_312, rfl⟩) <| 
  mA1 rfl (⟨⟨Nat.le_of_ble_eq_true rfl, Nat.le_of_ble_eq_true rfl, Nat.le_of_ble_eq_true rfl, cal_25⟩, rfl, gw_1036, gw_1037, gw_1038, _, rfl, rfl⟩) <| 
  mA0 rfl <| 
  mA0 rfl <| 
  mA1 rfl (⟨Nat.le_of_ble_eq_true rfl, rfl, Nat.le_of_ble_eq_true rfl, Nat.le_of_ble_eq_true rfl, gw_505, gw_18, by decide +kernel, 307, 124, "too many words", List.mem_of_getElem? (i := 22) rfl, at_1, Or.inr ⟨by decide +kernel, by decide +kernel, by decide +kernel⟩⟩) <| 
  mA0 rfl <| 
  mA1 rfl (⟨_, rfl, Nat.le_of_ble_eq_true rfl, gw_312, rfl⟩) <| 
  mA0 rfl <| 
  mA1 rfl (⟨⟨Nat.le_of_ble_eq_true rfl, Nat.le_of_ble_eq_true rfl, Nat.le_of_ble_eq_true rfl, cal_27⟩, rfl, gw_1042, gw_1043, gw_1044, _, rfl, rfl⟩) <| 
  mA0 rfl <| 
  mA1 rfl (⟨_, rfl, Nat.le_of_ble_eq_true rfl, gw_312, rfl⟩) <| 
  mA1 rfl (⟨⟨Nat.le_of_ble_eq_true rfl, Nat.le_of_ble_eq_true rfl, Nat.le_of_ble_eq_true rfl, cal_25⟩, rfl, gw_1036, gw_1037, gw_1038, _, rfl, rfl⟩) <| 
  mA0 rfl <| 
  mA0 rfl <| 
  mA1 rfl (Or.inl ⟨rfl, rfl⟩) <| trivial

theorem mc_142 : mAllP 142 mt_142 :=
  mA0 rfl <| 
  mA0 rfl <| 
  mA1 rfl (⟨⟨Nat.le_of_ble_eq_true rfl, Nat.le_of_ble_eq_true rfl, Nat.le_of_ble_eq_true rfl, cal_166⟩, rfl, gw_946, gw_948, gs_166, _, rfl, rfl⟩) <| 
  mA0 rfl <| 
  mA0 rfl <| 
  mA0 rfl <| 
  mA1 rfl (⟨⟨Nat.le_of_ble_eq_true rfl, Nat.le_of_ble_eq_true rfl, Nat.le_of_ble_eq_true rfl, cal_166⟩, rfl, gw_946, gw_948, gs_166, _, rfl, rfl⟩) <| 
  mA0 rfl <| 
  mA1 rfl (⟨Nat.le_of_ble_eq_true rfl, rfl, Nat.le_of_ble_eq_true rfl, Nat.le_of_ble_eq_true rfl, gw_437, gw_17, by decide +kernel, 302, 113, "no such text", List.mem_of_getElem? (i := 21) rfl, at_0, Or.inr ⟨by decide +kernel, by decide +kernel, by decide +kernel⟩⟩) <| 
  mA0 rfl <| 
  mA1 rfl (⟨_, rfl, Nat.le_of_ble_eq_true rfl, gw_312, rfl⟩) <| 
  mA0 rfl <| 
  mA1 rfl (⟨⟨Nat.le_of_ble_eq_true rfl, Nat.le_of_ble_eq_true rfl, Nat.le_of_ble_eq_true rfl, cal_31⟩, rfl, gw_1054, gw_1055, gw_1056, _, rfl, rfl⟩) <| 
  mA0 rfl <| 
  mA0 rfl <| 
  mA0 rfl <| 
  mA1 rfl (⟨⟨Nat.le_of_ble_eq_true rfl, Nat.le_of_ble_eq_true rfl, Nat.le_of_ble_eq_true rfl, cal_104⟩, rfl, gw_1058, gw_656, gw_657, _, rfl, rfl⟩) <| 
  mA0 rfl <| 
  mA0 rfl <| 
  mA1 rfl (⟨⟨Nat.le_of_ble_eq_true rfl, Nat.le_of_ble_eq_true rfl, Nat.le_of_ble_eq_true rfl, cal_93⟩, rfl, gw_366, gw_92, gw_93, _, rfl, rfl⟩) <| 
  mA0 rfl <| 
  mA0 rfl <| 
  mA1 rfl (⟨Nat.le_of_ble_eq_true rfl, rfl, Nat.le_of_ble_eq_true rfl, Nat.le_of_ble_eq_true rfl, gw_505, gw_18, by decide +kernel, 316, 124, "it has this reading, or too many", List.mem_of_getElem? (i := 23) rfl, at_1, Or.inr ⟨by decide +kernel, by decide +kernel, by decide +kernel⟩⟩) <| 
  mA0 rfl <| 
  mA0 rfl <| 
  mA1 rfl (⟨⟨Nat.le_of_ble_eq_true rfl, Nat.le_of_ble_eq_true rfl, Nat.le_of_ble_eq_true rfl, cal_97⟩, rfl, gw_521, gw_80, gw_81, _, rfl, rfl⟩) <| 
  mA0 rfl <| 
  mA1 rfl (⟨⟨Nat.le_of_ble_eq_true rfl, Nat.le_of_ble_eq_true rfl, Nat.le_of_ble_eq_true rfl, cal_93⟩, rfl, gw_366, gw_92, gw_93, _, rfl, rfl⟩) <| 
  mA1 rfl (Or.inl ⟨rfl, rfl⟩) <| trivial
