/-! Each entry's facts. -/

theorem mc_324 : mAllP 324 mt_324 :=
  mA0 rfl <| 
  mA0 rfl <| 
  mA1 rfl (⟨_, rfl, Nat.le_of_ble_eq_true rfl, gw_1491, rfl⟩) <| 
  mA0 rfl <| 
  mA0 rfl <| 
  mA1 rfl (⟨⟨Nat.le_of_ble_eq_true rfl, Nat.le_of_ble_eq_true rfl, Nat.le_of_ble_eq_true rfl, cal_227⟩, rfl, gw_1902, gw_1904, gs_227, _, rfl, rfl⟩) <| 
  mA0 rfl <| 
  mA1 rfl (⟨⟨Nat.le_of_ble_eq_true rfl, Nat.le_of_ble_eq_true rfl, Nat.le_of_ble_eq_true rfl, cal_229⟩, rfl, gw_1906, gw_1908, gs_229, _, rfl, rfl⟩) <| 
  mA0 rfl <| 
  mA1 rfl (⟨_, rfl, Nat.le_of_ble_eq_true rfl, gw_1461, rfl⟩) <| 
  mA0 rfl <| 
  mA0 rfl <| 
  mA0 rfl <| 
  mA1 rfl (⟨⟨Nat.le_of_ble_eq_true rfl, Nat.le_of_ble_eq_true rfl, Nat.le_of_ble_eq_true rfl, cal_305⟩, rfl, gw_2019, gw_2021, gs_305, _, rfl, rfl⟩) <| 
  mA0 rfl <| 
  mA0 rfl <| 
  mA1 rfl (⟨_, rfl, Nat.le_of_ble_eq_true rfl, gw_1493, rfl⟩) <| 
  mA0 rfl <| 
  mA0 rfl <| 
  mA0 rfl <| 
  mA0 rfl <| 
  mA0 rfl <| 
  mA0 rfl <| 
  mA0 rfl <| 
  mA0 rfl <| 
  mA0 rfl <| 
  mA1 rfl (⟨_, rfl, Nat.le_of_ble_eq_true rfl, gw_1505, rfl⟩) <| 
  mA0 rfl <| 
  mA0 rfl <| 
  mA0 rfl <| 
  mA1 rfl (⟨_, rfl, Nat.le_of_ble_eq_true rfl, gw_1497, rfl⟩) <| 
  mA0 rfl <| 
  mA0 rfl <| 
  mA0 rfl <| 
  mA0 rfl <| 
  mA0 rfl <| 
  mA0 rfl <| 
  mA0 rfl <| 
  mA0 rfl <| 
  mA0 rfl <| 
  mA1 rfl (⟨_, rfl, Nat.le_of_ble_eq_true rfl, gw_1490, rfl⟩) <| 
  mA0 rfl <| 
  mA0 rfl <| 
  mA0 rfl <| 
  mA0 rfl <| 
  mA0 rfl <| 
  mA0 rfl <| 
  mA0 rfl <| 
  mA0 rfl <| 
  mA0 rfl <| 
  mA0 rfl <| 
  mA0 rfl <| 
  mA0 rfl <| 
  mA0 rfl <| 
  mA0 rfl <| 
  mA1 rfl (⟨_, rfl, Nat.le_of_ble_eq_true rfl, gw_1499, rfl⟩) <| 
  mA0 rfl <| 
  mA0 rfl <| 
  mA0 rfl <| 
  mA0 rfl <| 
  mA1 rfl (⟨_, rfl, Nat.le_of_ble_eq_true rfl, gw_1498, rfl⟩) <| 
  mA0 rfl <| 
  mA0 rfl <| 
  mA0 rfl <| 
  mA0 rfl <| 
  mA0 rfl <| 
  mA0 rfl <| 
  mA0 rfl <| 
  mA0 rfl <| 
  mA0 rfl <| 
  mA0 rfl <| 
  mA0 rfl <| 
  mA0 rfl <| 
  mA0 rfl <| 
  mA1 rfl (⟨_, rfl, Nat.le_of_ble_eq_true rfl, gw_1516, rfl⟩) <| 
  mA0 rfl <| 
  mA0 rfl <| 
  mA0 rfl <| 
  mA0 rfl <| 
  mA1 rfl (⟨_, rfl, Nat.le_of_ble_eq_true rfl, gw_1516, rfl⟩) <| 
  mA0 rfl <| 
  mA1 rfl (Or.inl ⟨rfl, rfl⟩) <| trivial

theorem mc_325_0 : mAllP 325 mt_325_0 :=
  mA0 rfl <| 
  mA0 rfl <| 
  mA1 rfl (⟨⟨Nat.le_of_ble_eq_true rfl, Nat.le_of_ble_eq_true rfl, Nat.le_of_ble_eq_true rfl, cal_294⟩, rfl, gw_1758, gw_1760, gs_294, _, rfl, rfl⟩) <| 
  mA0 rfl <| 
  mA0 rfl <| 
  mA0 rfl <| 
  mA0 rfl <| 
  mA0 rfl <| 
  mA0 rfl <| 
  mA0 rfl <| 
  mA0 rfl <| 
  mA0 rfl <| 
  mA0 rfl <| 
  mA0 rfl <| 
  mA0 rfl <| 
  mA1 rfl (⟨_, rfl, Nat.le_of_ble_eq_true rfl, gw_1501, rfl⟩) <| 
  mA0 rfl <| 
  mA0 rfl <| 
  mA1 rfl (⟨_, rfl, Nat.le_of_ble_eq_true rfl, gw_1500, rfl⟩) <| 
  mA0 rfl <| 
  mA0 rfl <| 
  mA0 rfl <| 
  mA0 rfl <| 
  mA1 rfl (⟨_, rfl, Nat.le_of_ble_eq_true rfl, gw_1490, rfl⟩) <| 
  mA0 rfl <| 
  mA0 rfl <| 
  mA0 rfl <| 
  mA0 rfl <| 
  mA0 rfl <| 
  mA0 rfl <| 
  mA0 rfl <| 
  mA0 rfl <| 
  mA0 rfl <| 
  mA0 rfl <| 
  mA0 rfl <| 
  mA0 rfl <| 
  mA0 rfl <| 
  mA0 rfl <| 
  mA0 rfl <| 
  mA1 rfl (⟨⟨Nat.le_of_ble_eq_true rfl, Nat.le_of_ble_eq_true rfl, Nat.le_of_ble_eq_true rfl, cal_299⟩, rfl, gw_2008, gw_2010, gs_299, _, rfl, rfl⟩) <| 
  mA0 rfl <| 
  mA0 rfl <| 
  mA0 rfl <| 
  mA0 rfl <| 
  mA0 rfl <| 
  mA0 rfl <| 
  mA0 rfl <| 
  mA0 rfl <| 
  mA0 rfl <| 
  mA0 rfl <| 
  mA0 rfl <| 
  mA0 rfl <| 
  mA0 rfl <| 
  mA0 rfl <| 
  mA0 rfl <| 
  mA0 rfl <| 
  mA0 rfl <| 
  mA0 rfl <| 
  mA0 rfl <| 
  mA1 rfl (⟨⟨Nat.le_of_ble_eq_true rfl, Nat.le_of_ble_eq_true rfl, Nat.le_of_ble_eq_true rfl, cal_324⟩, rfl, gw_2112, gw_2114, gs_324, _, rfl, rfl⟩) <| 
  mA0 rfl <| 
  mA0 rfl <| 
  mA0 rfl <| 
  mA0 rfl <| 
  mA0 rfl <| 
  mA0 rfl <| 
  mA0 rfl <| 
  mA0 rfl <| 
  mA1 rfl (⟨_, rfl, Nat.le_of_ble_eq_true rfl, gw_1517, rfl⟩) <| 
  mA0 rfl <| 
  mA0 rfl <| 
  mA0 rfl <| 
  mA0 rfl <| 
  mA0 rfl <| 
  mA0 rfl <| 
  mA0 rfl <| 
  mA0 rfl <| 
  mA0 rfl <| 
  mA0 rfl <| 
  mA0 rfl <| 
  mA0 rfl <| 
  mA0 rfl <| 
  mA0 rfl <| 
  mA0 rfl <| 
  mA0 rfl <| 
  mA1 rfl (⟨_, rfl, Nat.le_of_ble_eq_true rfl, gw_1517, rfl⟩) <| 
  mA0 rfl <| 
  mA0 rfl <| 
  mA0 rfl <| 
  mA0 rfl <| 
  mA0 rfl <| 
  mA0 rfl <| 
  mA0 rfl <| 
  mA0 rfl <| 
  mA0 rfl <| 
  mA0 rfl <| 
  mA0 rfl <| 
  mA0 rfl <| 
  mA0 rfl <| 
  mA0 rfl <| 
  mA0 rfl <| 
  mA0 rfl <| 
  mA0 rfl <| 
  mA0 rfl <| 
  mA0 rfl <| 
  mA0 rfl <| 
  mA0 rfl <| 
  mA0 rfl <| 
  mA0 rfl <| 
  mA0 rfl <| 
  mA0 rfl <| 
  mA0 rfl <| 
  mA0 rfl <| 
  mA0 rfl <| 
  mA0 rfl <| 
  mA0 rfl <| 
  mA0 rfl <| 
  mA0 rfl <| 
  mA0 rfl <| 
  mA0 rfl <| trivial

theorem mc_325_1 : mAllP 325 mt_325_1 :=
  mA0 rfl <| 
  mA0 rfl <| 
  mA0 rfl <| 
  mA0 rfl <| 
  mA0 rfl <| 
  mA1 rfl (⟨_, rfl, Nat.le_of_ble_eq_true rfl, gw_1517, rfl⟩) <| 
  mA0 rfl <| 
  mA0 rfl <| 
  mA0 rfl <| 
  mA0 rfl <| 
  mA0 rfl <| 
  mA0 rfl <| 
  mA0 rfl <| 
  mA0 rfl <| 
  mA0 rfl <| 
  mA0 rfl <| 
  mA0 rfl <| 
  mA0 rfl <| 
  mA0 rfl <| 
  mA0 rfl <| 
  mA0 rfl <| 
  mA0 rfl <| 
  mA0 rfl <| 
  mA0 rfl <| 
  mA0 rfl <| 
  mA0 rfl <| 
  mA0 rfl <| 
  mA0 rfl <| 
  mA0 rfl <| 
  mA0 rfl <| 
  mA1 rfl (⟨_, rfl, Nat.le_of_ble_eq_true rfl, gw_1517, rfl⟩) <| 
  mA0 rfl <| 
  mA0 rfl <| 
  mA0 rfl <| 
  mA0 rfl <| 
  mA0 rfl <| 
  mA0 rfl <| 
  mA0 rfl <| 
  mA1 rfl (⟨_, rfl, Nat.le_of_ble_eq_true rfl, gw_1517, rfl⟩) <| 
  mA0 rfl <| 
  mA0 rfl <| 
  mA0 rfl <| 
  mA0 rfl <| 
  mA0 rfl <| 
  mA0 rfl <| 
  mA0 rfl <| 
  mA1 rfl (Or.inl ⟨rfl, rfl⟩) <| trivial

theorem mc_326 : mAllP 326 mt_326 :=
  mA0 rfl <| 
  mA0 rfl <| 
  mA0 rfl <| 
  mA0 rfl <| 
  mA1 rfl (⟨⟨Nat.le_of_ble_eq_true rfl, Nat.le_of_ble_eq_true rfl, Nat.le_of_ble_eq_true rfl, cal_300⟩, rfl, gw_2004, gw_2006, gs_300, _, rfl, rfl⟩) <| 
  mA0 rfl <| 
  mA0 rfl <| 
  mA0 rfl <| 
  mA0 rfl <| 
  mA1 rfl (⟨⟨Nat.le_of_ble_eq_true rfl, Nat.le_of_ble_eq_true rfl, Nat.le_of_ble_eq_true rfl, cal_210⟩, rfl, gw_1674, gw_1676, gs_210, _, rfl, rfl⟩) <| 
  mA0 rfl <| 
  mA0 rfl <| 
  mA0 rfl <| 
  mA0 rfl <| 
  mA1 rfl (⟨⟨Nat.le_of_ble_eq_true rfl, Nat.le_of_ble_eq_true rfl, Nat.le_of_ble_eq_true rfl, cal_325⟩, rfl, gw_2108, gw_2110, gs_325, _, rfl, rfl⟩) <| 
  mA0 rfl <| 
  mA0 rfl <| 
  mA1 rfl (Or.inl ⟨rfl, rfl⟩) <| trivial

theorem mc_327 : mAllP 327 mt_327 :=
  mA0 rfl <| 
  mA0 rfl <| 
  mA0 rfl <| 
  mA0 rfl <| 
  mA0 rfl <| 
  mA0 rfl <| 
  mA0 rfl <| 
  mA0 rfl <| 
  mA0 rfl <| 
  mA0 rfl <| 
  mA0 rfl <| 
  mA1 rfl (Or.inl ⟨rfl, rfl⟩) <| trivial

theorem mc_328 : mAllP 328 mt_328 :=
  mA0 rfl <| 
  mA0 rfl <| 
  mA0 rfl <| 
  mA0 rfl <| 
  mA1 rfl (gw_1388) <| 
  mA0 rfl <| 
  mA0 rfl <| 
  mA0 rfl <| 
  mA0 rfl <| 
  mA1 rfl (gw_1389) <| 
  mA0 rfl <| 
  mA0 rfl <| 
  mA0 rfl <| 
  mA0 rfl <| 
  mA1 rfl (gw_1389) <| 
  mA0 rfl <| 
  mA0 rfl <| 
  mA0 rfl <| 
  mA0 rfl <| 
  mA0 rfl <| 
  mA0 rfl <| 
  mA0 rfl <| 
  mA0 rfl <| 
  mA1 rfl (gw_1390) <| 
  mA0 rfl <| 
  mA0 rfl <| 
  mA0 rfl <| 
  mA0 rfl <| 
  mA0 rfl <| 
  mA0 rfl <| 
  mA0 rfl <| 
  mA0 rfl <| 
  mA0 rfl <| 
  mA0 rfl <| 
  mA0 rfl <| 
  mA0 rfl <| 
  mA0 rfl <| 
  mA0 rfl <| 
  mA0 rfl <| 
  mA0 rfl <| 
  mA0 rfl <| 
  mA1 rfl (Or.inl ⟨rfl, rfl⟩) <| trivial

theorem mc_329 : mAllP 329 mt_329 :=
  mA0 rfl <| 
  mA0 rfl <| 
  mA0 rfl <| 
  mA0 rfl <| 
  mA0 rfl <| 
  mA0 rfl <| 
  mA1 rfl (Or.inl ⟨rfl, rfl⟩) <| trivial

theorem mc_330 : mAllP 330 mt_330 :=
  mA0 rfl <| 
  mA0 rfl <| 
  mA0 rfl <| 
  mA0 rfl <| 
  mA0 rfl <| 
  mA0 rfl <| 
  mA1 rfl (Or.inl ⟨rfl, rfl⟩) <| trivial

theorem mc_331 : mAllP 331 mt_331 :=
  mA0 rfl <| 
  mA0 rfl <| 
  mA0 rfl <| 
  mA0 rfl <| 
  mA1 rfl (⟨⟨Nat.le_of_ble_eq_true rfl, Nat.le_of_ble_eq_true rfl, Nat.le_of_ble_eq_true rfl, cal_128⟩, rfl, gw_421, gw_422, gw_423, _, rfl, rfl⟩) <| 
  mA0 rfl <| 
  mA0 rfl <| 
  mA0 rfl <| 
  mA0 rfl <| 
  mA0 rfl <| 
  mA1 rfl (Or.inl ⟨rfl, rfl⟩) <| 
  mA0 rfl <| 
  mA0 rfl <| 
  mA1 rfl (Or.inl ⟨rfl, rfl⟩) <| 
  mA0 rfl <| 
  mA1 rfl (Or.inl ⟨rfl, rfl⟩) <| trivial

theorem mc_332 : mAllP 332 mt_332 :=
  mA0 rfl <| 
  mA0 rfl <| 
  mA0 rfl <| 
  mA0 rfl <| 
  mA0 rfl <| 
  mA0 rfl <| 
  mA1 rfl (⟨⟨Nat.le_of_ble_eq_true rfl, Nat.le_of_ble_eq_true rfl, Nat.le_of_ble_eq_true rfl, cal_129⟩, rfl, gw_525, gw_526, gw_527, _, rfl, rfl⟩) <| 
  mA0 rfl <| 
  mA0 rfl <| 
  mA0 rfl <| 
  mA0 rfl <| 
  mA0 rfl <| 
  mA1 rfl (Or.inl ⟨rfl, rfl⟩) <| 
  mA0 rfl <| 
  mA0 rfl <| 
  mA1 rfl (Or.inl ⟨rfl, rfl⟩) <| 
  mA0 rfl <| 
  mA1 rfl (Or.inl ⟨rfl, rfl⟩) <| trivial

theorem mc_333 : mAllP 333 mt_333 :=
  mA0 rfl <| 
  mA0 rfl <| 
  mA0 rfl <| 
  mA1 rfl (⟨⟨Nat.le_of_ble_eq_true rfl, Nat.le_of_ble_eq_true rfl, Nat.le_of_ble_eq_true rfl, cal_130⟩, rfl, gw_556, gw_557, gw_558, _, rfl, rfl⟩) <| 
  mA0 rfl <| 
  mA0 rfl <| 
  mA0 rfl <| 
  mA0 rfl <| 
  mA0 rfl <| 
  mA1 rfl (Or.inl ⟨rfl, rfl⟩) <| 
  mA0 rfl <| 
  mA1 rfl (Or.inl ⟨rfl, rfl⟩) <| trivial

theorem mc_334 : mAllP 334 mt_334 :=
  mA0 rfl <| 
  mA0 rfl <| 
  mA0 rfl <| 
  mA1 rfl (⟨⟨Nat.le_of_ble_eq_true rfl, Nat.le_of_ble_eq_true rfl, Nat.le_of_ble_eq_true rfl, cal_132⟩, rfl, gw_598, gw_599, gw_600, _, rfl, rfl⟩) <| 
  mA0 rfl <| 
  mA0 rfl <| 
  mA0 rfl <| 
  mA0 rfl <| 
  mA0 rfl <| 
  mA1 rfl (Or.inl ⟨rfl, rfl⟩) <| 
  mA0 rfl <| 
  mA1 rfl (Or.inl ⟨rfl, rfl⟩) <| trivial

theorem mc_335 : mAllP 335 mt_335 :=
  mA0 rfl <| 
  mA0 rfl <| 
  mA0 rfl <| 
  mA0 rfl <| 
  mA0 rfl <| 
  mA1 rfl (⟨⟨Nat.le_of_ble_eq_true rfl, Nat.le_of_ble_eq_true rfl, Nat.le_of_ble_eq_true rfl, cal_133⟩, rfl, gw_607, gw_608, gw_609, _, rfl, rfl⟩) <| 
  mA0 rfl <| 
  mA0 rfl <| 
  mA0 rfl <| 
  mA0 rfl <| 
  mA0 rfl <| 
  mA1 rfl (Or.inl ⟨rfl, rfl⟩) <| 
  mA0 rfl <| 
  mA0 rfl <| 
  mA1 rfl (Or.inl ⟨rfl, rfl⟩) <| 
  mA0 rfl <| 
  mA0 rfl <| 
  mA1 rfl (Or.inl ⟨rfl, rfl⟩) <| 
  mA0 rfl <| 
  mA1 rfl (Or.inl ⟨rfl, rfl⟩) <| trivial

theorem mc_336 : mAllP 336 mt_336 :=
  mA0 rfl <| 
  mA0 rfl <| 
  mA0 rfl <| 
  mA0 rfl <| 
  mA0 rfl <| 
  mA1 rfl (⟨⟨Nat.le_of_ble_eq_true rfl, Nat.le_of_ble_eq_true rfl, Nat.le_of_ble_eq_true rfl, cal_134⟩, rfl, gw_897, gw_898, gw_899, _, rfl, rfl⟩) <| 
  mA0 rfl <| 
  mA0 rfl <| 
  mA0 rfl <| 
  mA0 rfl <| 
  mA0 rfl <| 
  mA1 rfl (Or.inl ⟨rfl, rfl⟩) <| 
  mA0 rfl <| 
  mA0 rfl <| 
  mA1 rfl (Or.inl ⟨rfl, rfl⟩) <| 
  mA0 rfl <| 
  mA0 rfl <| 
  mA1 rfl (Or.inl ⟨rfl, rfl⟩) <| 
  mA0 rfl <| 
  mA1 rfl (Or.inl ⟨rfl, rfl⟩) <| trivial

theorem mc_337 : mAllP 337 mt_337 :=
  mA0 rfl <| 
  mA0 rfl <| 
  mA0 rfl <| 
  mA0 rfl <| 
  mA0 rfl <| 
  mA0 rfl <| 
  mA1 rfl (⟨⟨Nat.le_of_ble_eq_true rfl, Nat.le_of_ble_eq_true rfl, Nat.le_of_ble_eq_true rfl, cal_135⟩, rfl, gw_917, gw_918, gw_919, _, rfl, rfl⟩) <| 
  mA0 rfl <| 
  mA0 rfl <| 
  mA0 rfl <| 
  mA0 rfl <| 
  mA0 rfl <| 
  mA0 rfl <| 
  mA0 rfl <| 
  mA0 rfl <| 
  mA1 rfl (Or.inl ⟨rfl, rfl⟩) <| 
  mA0 rfl <| 
  mA1 rfl (Or.inl ⟨rfl, rfl⟩) <| trivial

theorem mc_338 : mAllP 338 mt_338 :=
  mA0 rfl <| 
  mA0 rfl <| 
  mA0 rfl <| 
  mA0 rfl <| 
  mA0 rfl <| 
  mA1 rfl (⟨⟨Nat.le_of_ble_eq_true rfl, Nat.le_of_ble_eq_true rfl, Nat.le_of_ble_eq_true rfl, cal_136⟩, rfl, gw_930, gw_931, gw_932, _, rfl, rfl⟩) <| 
  mA0 rfl <| 
  mA0 rfl <| 
  mA0 rfl <| 
  mA0 rfl <| 
  mA0 rfl <| 
  mA1 rfl (Or.inl ⟨rfl, rfl⟩) <| 
  mA0 rfl <| 
  mA1 rfl (Or.inl ⟨rfl, rfl⟩) <| trivial

theorem mc_339 : mAllP 339 mt_339 :=
  mA0 rfl <| 
  mA0 rfl <| 
  mA0 rfl <| 
  mA0 rfl <| 
  mA0 rfl <| 
  mA0 rfl <| 
  mA1 rfl (⟨⟨Nat.le_of_ble_eq_true rfl, Nat.le_of_ble_eq_true rfl, Nat.le_of_ble_eq_true rfl, cal_137⟩, rfl, gw_938, gw_939, gw_940, _, rfl, rfl⟩) <| 
  mA0 rfl <| 
  mA0 rfl <| 
  mA0 rfl <| 
  mA0 rfl <| 
  mA0 rfl <| 
  mA1 rfl (Or.inl ⟨rfl, rfl⟩) <| 
  mA0 rfl <| 
  mA0 rfl <| 
  mA1 rfl (Or.inl ⟨rfl, rfl⟩) <| 
  mA0 rfl <| 
  mA0 rfl <| 
  mA1 rfl (Or.inl ⟨rfl, rfl⟩) <| 
  mA0 rfl <| 
  mA1 rfl (Or.inl ⟨rfl, rfl⟩) <| trivial

theorem mc_340 : mAllP 340 mt_340 :=
  mA0 rfl <| 
  mA0 rfl <| 
  mA0 rfl <| 
  mA0 rfl <| 
  mA0 rfl <| 
  mA0 rfl <| 
  mA1 rfl (⟨⟨Nat.le_of_ble_eq_true rfl, Nat.le_of_ble_eq_true rfl, Nat.le_of_ble_eq_true rfl, cal_138⟩, rfl, gw_972, gw_973, gw_974, _, rfl, rfl⟩) <| 
  mA0 rfl <| 
  mA0 rfl <| 
  mA0 rfl <| 
  mA0 rfl <| 
  mA0 rfl <| 
  mA1 rfl (Or.inl ⟨rfl, rfl⟩) <| 
  mA0 rfl <| 
  mA0 rfl <| 
  mA1 rfl (Or.inl ⟨rfl, rfl⟩) <| 
  mA0 rfl <| 
  mA1 rfl (Or.inl ⟨rfl, rfl⟩) <| trivial

theorem mc_341 : mAllP 341 mt_341 :=
  mA0 rfl <| 
  mA0 rfl <| 
  mA0 rfl <| 
  mA0 rfl <| 
  mA0 rfl <| 
  mA0 rfl <| 
  mA1 rfl (⟨⟨Nat.le_of_ble_eq_true rfl, Nat.le_of_ble_eq_true rfl, Nat.le_of_ble_eq_true rfl, cal_139⟩, rfl, gw_989, gw_990, gw_991, _, rfl, rfl⟩) <| 
  mA0 rfl <| 
  mA0 rfl <| 
  mA0 rfl <| 
  mA0 rfl <| 
  mA0 rfl <| 
  mA0 rfl <| 
  mA0 rfl <| 
  mA0 rfl <| 
  mA1 rfl (Or.inl ⟨rfl, rfl⟩) <| 
  mA0 rfl <| 
  mA0 rfl <| 
  mA1 rfl (Or.inl ⟨rfl, rfl⟩) <| 
  mA0 rfl <| 
  mA0 rfl <| 
  mA1 rfl (Or.inl ⟨rfl, rfl⟩) <| 
  mA0 rfl <| 
  mA1 rfl (Or.inl ⟨rfl, rfl⟩) <| trivial

theorem mc_342 : mAllP 342 mt_342 :=
  mA0 rfl <| 
  mA0 rfl <| 
  mA0 rfl <| 
  mA0 rfl <| 
  mA0 rfl <| 
  mA0 rfl <| 
  mA1 rfl (⟨⟨Nat.le_of_ble_eq_true rfl, Nat.le_of_ble_eq_true rfl, Nat.le_of_ble_eq_true rfl, cal_140⟩, rfl, gw_1019, gw_1020, gw_1021, _, rfl, rfl⟩) <| 
  mA0 rfl <| 
  mA0 rfl <| 
  mA0 rfl <| 
  mA0 rfl <| 
  mA0 rfl <| 
  mA0 rfl <| 
  mA0 rfl <| 
  mA0 rfl <| 
  mA1 rfl (Or.inl ⟨rfl, rfl⟩) <| 
  mA0 rfl <| 
  mA0 rfl <| 
  mA1 rfl (Or.inl ⟨rfl, rfl⟩) <| 
  mA0 rfl <| 
  mA0 rfl <| 
  mA1 rfl (Or.inl ⟨rfl, rfl⟩) <| 
  mA0 rfl <| 
  mA1 rfl (Or.inl ⟨rfl, rfl⟩) <| trivial

theorem mc_343 : mAllP 343 mt_343 :=
  mA0 rfl <| 
  mA0 rfl <| 
  mA0 rfl <| 
  mA0 rfl <| 
  mA1 rfl (⟨⟨Nat.le_of_ble_eq_true rfl, Nat.le_of_ble_eq_true rfl, Nat.le_of_ble_eq_true rfl, cal_141⟩, rfl, gw_1031, gw_1032, gw_1033, _, rfl, rfl⟩) <| 
  mA0 rfl <| 
  mA0 rfl <| 
  mA0 rfl <| 
  mA0 rfl <| 
  mA0 rfl <| 
  mA1 rfl (Or.inl ⟨rfl, rfl⟩) <| 
  mA0 rfl <| 
  mA0 rfl <| 
  mA1 rfl (Or.inl ⟨rfl, rfl⟩) <| 
  mA0 rfl <| 
  mA1 rfl (Or.inl ⟨rfl, rfl⟩) <| trivial

theorem mc_344 : mAllP 344 mt_344 :=
  mA0 rfl <| 
  mA0 rfl <| 
  mA0 rfl <| 
  mA0 rfl <| 
  mA0 rfl <| 
  mA1 rfl (⟨⟨Nat.le_of_ble_eq_true rfl, Nat.le_of_ble_eq_true rfl, Nat.le_of_ble_eq_true rfl, cal_142⟩, rfl, gw_1050, gw_1051, gw_1052, _, rfl, rfl⟩) <| 
  mA0 rfl <| 
  mA0 rfl <| 
  mA0 rfl <| 
  mA0 rfl <| 
  mA0 rfl <| 
  mA1 rfl (Or.inl ⟨rfl, rfl⟩) <| 
  mA0 rfl <| 
  mA0 rfl <| 
  mA1 rfl (Or.inl ⟨rfl, rfl⟩) <| 
  mA0 rfl <| 
  mA1 rfl (Or.inl ⟨rfl, rfl⟩) <| trivial

theorem mc_345 : mAllP 345 mt_345 :=
  mA0 rfl <| 
  mA0 rfl <| 
  mA0 rfl <| 
  mA0 rfl <| 
  mA0 rfl <| 
  mA1 rfl (⟨⟨Nat.le_of_ble_eq_true rfl, Nat.le_of_ble_eq_true rfl, Nat.le_of_ble_eq_true rfl, cal_143⟩, rfl, gw_1063, gw_1064, gw_1065, _, rfl, rfl⟩) <| 
  mA0 rfl <| 
  mA0 rfl <| 
  mA0 rfl <| 
  mA0 rfl <| 
  mA0 rfl <| 
  mA1 rfl (Or.inl ⟨rfl, rfl⟩) <| 
  mA0 rfl <| 
  mA0 rfl <| 
  mA1 rfl (Or.inl ⟨rfl, rfl⟩) <| 
  mA0 rfl <| 
  mA1 rfl (Or.inl ⟨rfl, rfl⟩) <| trivial

theorem mc_346 : mAllP 346 mt_346 :=
  mA0 rfl <| 
  mA0 rfl <| 
  mA0 rfl <| 
  mA0 rfl <| 
  mA0 rfl <| 
  mA1 rfl (⟨⟨Nat.le_of_ble_eq_true rfl, Nat.le_of_ble_eq_true rfl, Nat.le_of_ble_eq_true rfl, cal_144⟩, rfl, gw_1090, gw_1091, gw_1092, _, rfl, rfl⟩) <| 
  mA0 rfl <| 
  mA0 rfl <| 
  mA0 rfl <| 
  mA0 rfl <| 
  mA0 rfl <| 
  mA1 rfl (Or.inl ⟨rfl, rfl⟩) <| 
  mA0 rfl <| 
  mA0 rfl <| 
  mA1 rfl (Or.inl ⟨rfl, rfl⟩) <| 
  mA0 rfl <| 
  mA1 rfl (Or.inl ⟨rfl, rfl⟩) <| trivial

theorem mc_347 : mAllP 347 mt_347 :=
  mA0 rfl <| 
  mA0 rfl <| 
  mA0 rfl <| 
  mA1 rfl (⟨⟨Nat.le_of_ble_eq_true rfl, Nat.le_of_ble_eq_true rfl, Nat.le_of_ble_eq_true rfl, cal_145⟩, rfl, gw_1114, gw_1115, gw_1116, _, rfl, rfl⟩) <| 
  mA0 rfl <| 
  mA0 rfl <| 
  mA0 rfl <| 
  mA0 rfl <| 
  mA0 rfl <| 
  mA1 rfl (Or.inl ⟨rfl, rfl⟩) <| 
  mA0 rfl <| 
  mA1 rfl (Or.inl ⟨rfl, rfl⟩) <| trivial

theorem mc_348 : mAllP 348 mt_348 :=
  mA0 rfl <| 
  mA0 rfl <| 
  mA0 rfl <| 
  mA0 rfl <| 
  mA0 rfl <| 
  mA1 rfl (⟨⟨Nat.le_of_ble_eq_true rfl, Nat.le_of_ble_eq_true rfl, Nat.le_of_ble_eq_true rfl, cal_146⟩, rfl, gw_1144, gw_1145, gw_1146, _, rfl, rfl⟩) <| 
  mA0 rfl <| 
  mA0 rfl <| 
  mA0 rfl <| 
  mA0 rfl <| 
  mA0 rfl <| 
  mA1 rfl (Or.inl ⟨rfl, rfl⟩) <| 
  mA0 rfl <| 
  mA1 rfl (Or.inl ⟨rfl, rfl⟩) <| trivial

theorem mc_349 : mAllP 349 mt_349 :=
  mA0 rfl <| 
  mA0 rfl <| 
  mA0 rfl <| 
  mA0 rfl <| 
  mA0 rfl <| 
  mA0 rfl <| 
  mA1 rfl (⟨⟨Nat.le_of_ble_eq_true rfl, Nat.le_of_ble_eq_true rfl, Nat.le_of_ble_eq_true rfl, cal_148⟩, rfl, gw_1155, gw_1156, gw_1157, _, rfl, rfl⟩) <| 
  mA0 rfl <| 
  mA0 rfl <| 
  mA0 rfl <| 
  mA0 rfl <| 
  mA0 rfl <| 
  mA1 rfl (Or.inl ⟨rfl, rfl⟩) <| 
  mA0 rfl <| 
  mA1 rfl (Or.inl ⟨rfl, rfl⟩) <| trivial

theorem mc_350 : mAllP 350 mt_350 :=
  mA0 rfl <| 
  mA0 rfl <| 
  mA0 rfl <| 
  mA0 rfl <| 
  mA1 rfl (⟨⟨Nat.le_of_ble_eq_true rfl, Nat.le_of_ble_eq_true rfl, Nat.le_of_ble_eq_true rfl, cal_149⟩, rfl, gw_1169, gw_1170, gw_1171, _, rfl, rfl⟩) <| 
  mA0 rfl <| 
  mA0 rfl <| 
  mA0 rfl <| 
  mA0 rfl <| 
  mA0 rfl <| 
  mA1 rfl (Or.inl ⟨rfl, rfl⟩) <| 
  mA0 rfl <| 
  mA1 rfl (Or.inl ⟨rfl, rfl⟩) <| trivial

theorem mc_351 : mAllP 351 mt_351 :=
  mA0 rfl <| 
  mA0 rfl <| 
  mA0 rfl <| 
  mA0 rfl <| 
  mA0 rfl <| 
  mA1 rfl (⟨⟨Nat.le_of_ble_eq_true rfl, Nat.le_of_ble_eq_true rfl, Nat.le_of_ble_eq_true rfl, cal_150⟩, rfl, gw_1176, gw_1177, gw_1178, _, rfl, rfl⟩) <| 
  mA0 rfl <| 
  mA0 rfl <| 
  mA0 rfl <| 
  mA0 rfl <| 
  mA0 rfl <| 
  mA1 rfl (Or.inl ⟨rfl, rfl⟩) <| 
  mA0 rfl <| 
  mA1 rfl (Or.inl ⟨rfl, rfl⟩) <| trivial

theorem mc_352 : mAllP 352 mt_352 :=
  mA0 rfl <| 
  mA0 rfl <| 
  mA0 rfl <| 
  mA0 rfl <| 
  mA0 rfl <| 
  mA0 rfl <| 
  mA1 rfl (⟨⟨Nat.le_of_ble_eq_true rfl, Nat.le_of_ble_eq_true rfl, Nat.le_of_ble_eq_true rfl, cal_151⟩, rfl, gw_1193, gw_1194, gw_1195, _, rfl, rfl⟩) <| 
  mA0 rfl <| 
  mA0 rfl <| 
  mA0 rfl <| 
  mA0 rfl <| 
  mA0 rfl <| 
  mA1 rfl (Or.inl ⟨rfl, rfl⟩) <| 
  mA0 rfl <| 
  mA1 rfl (Or.inl ⟨rfl, rfl⟩) <| trivial

theorem mc_353 : mAllP 353 mt_353 :=
  mA0 rfl <| 
  mA0 rfl <| 
  mA0 rfl <| 
  mA0 rfl <| 
  mA0 rfl <| 
  mA0 rfl <| 
  mA0 rfl <| 
  mA1 rfl (⟨⟨Nat.le_of_ble_eq_true rfl, Nat.le_of_ble_eq_true rfl, Nat.le_of_ble_eq_true rfl, cal_152⟩, rfl, gw_1209, gw_1210, gw_1211, _, rfl, rfl⟩) <| 
  mA0 rfl <| 
  mA0 rfl <| 
  mA0 rfl <| 
  mA0 rfl <| 
  mA0 rfl <| 
  mA1 rfl (Or.inl ⟨rfl, rfl⟩) <| 
  mA0 rfl <| 
  mA0 rfl <| 
  mA1 rfl (Or.inl ⟨rfl, rfl⟩) <| 
  mA0 rfl <| 
  mA1 rfl (Or.inl ⟨rfl, rfl⟩) <| trivial

theorem mc_354 : mAllP 354 mt_354 :=
  mA0 rfl <| 
  mA0 rfl <| 
  mA0 rfl <| 
  mA0 rfl <| 
  mA0 rfl <| 
  mA0 rfl <| 
  mA0 rfl <| 
  mA1 rfl (⟨⟨Nat.le_of_ble_eq_true rfl, Nat.le_of_ble_eq_true rfl, Nat.le_of_ble_eq_true rfl, cal_153⟩, rfl, gw_1225, gw_1226, gw_1227, _, rfl, rfl⟩) <| 
  mA0 rfl <| 
  mA0 rfl <| 
  mA0 rfl <| 
  mA0 rfl <| 
  mA0 rfl <| 
  mA1 rfl (Or.inl ⟨rfl, rfl⟩) <| 
  mA0 rfl <| 
  mA0 rfl <| 
  mA1 rfl (Or.inl ⟨rfl, rfl⟩) <| 
  mA0 rfl <| 
  mA1 rfl (Or.inl ⟨rfl, rfl⟩) <| trivial

theorem mc_355 : mAllP 355 mt_355 :=
  mA0 rfl <| 
  mA0 rfl <| 
  mA0 rfl <| 
  mA0 rfl <| 
  mA0 rfl <| 
  mA0 rfl <| 
  mA0 rfl <| 
  mA1 rfl (⟨⟨Nat.le_of_ble_eq_true rfl, Nat.le_of_ble_eq_true rfl, Nat.le_of_ble_eq_true rfl, cal_154⟩, rfl, gw_1238, gw_1239, gw_1240, _, rfl, rfl⟩) <| 
  mA0 rfl <| 
  mA0 rfl <| 
  mA0 rfl <| 
  mA0 rfl <| 
  mA0 rfl <| 
  mA1 rfl (Or.inl ⟨rfl, rfl⟩) <| 
  mA0 rfl <| 
  mA0 rfl <| 
  mA1 rfl (Or.inl ⟨rfl, rfl⟩) <| 
  mA0 rfl <| 
  mA1 rfl (Or.inl ⟨rfl, rfl⟩) <| trivial

theorem mc_356 : mAllP 356 mt_356 :=
  mA0 rfl <| 
  mA0 rfl <| 
  mA0 rfl <| 
  mA0 rfl <| 
  mA0 rfl <| 
  mA0 rfl <| 
  mA0 rfl <| 
  mA0 rfl <| 
  mA1 rfl (⟨⟨Nat.le_of_ble_eq_true rfl, Nat.le_of_ble_eq_true rfl, Nat.le_of_ble_eq_true rfl, cal_155⟩, rfl, gw_1249, gw_1250, gw_1251, _, rfl, rfl⟩) <| 
  mA0 rfl <| 
  mA0 rfl <| 
  mA0 rfl <| 
  mA0 rfl <| 
  mA0 rfl <| 
  mA1 rfl (Or.inl ⟨rfl, rfl⟩) <| 
  mA0 rfl <| 
  mA0 rfl <| 
  mA1 rfl (Or.inl ⟨rfl, rfl⟩) <| 
  mA0 rfl <| 
  mA1 rfl (Or.inl ⟨rfl, rfl⟩) <| trivial

theorem mc_357 : mAllP 357 mt_357 :=
  mA0 rfl <| 
  mA0 rfl <| 
  mA0 rfl <| 
  mA0 rfl <| 
  mA0 rfl <| 
  mA1 rfl (⟨⟨Nat.le_of_ble_eq_true rfl, Nat.le_of_ble_eq_true rfl, Nat.le_of_ble_eq_true rfl, cal_157⟩, rfl, gw_1271, gw_1272, gw_1273, _, rfl, rfl⟩) <| 
  mA0 rfl <| 
  mA0 rfl <| 
  mA0 rfl <| 
  mA0 rfl <| 
  mA0 rfl <| 
  mA1 rfl (Or.inl ⟨rfl, rfl⟩) <| 
  mA0 rfl <| 
  mA1 rfl (Or.inl ⟨rfl, rfl⟩) <| trivial

theorem mc_358 : mAllP 358 mt_358 :=
  mA0 rfl <| 
  mA0 rfl <| 
  mA0 rfl <| 
  mA0 rfl <| 
  mA0 rfl <| 
  mA1 rfl (⟨⟨Nat.le_of_ble_eq_true rfl, Nat.le_of_ble_eq_true rfl, Nat.le_of_ble_eq_true rfl, cal_158⟩, rfl, gw_1279, gw_1280, gw_1281, _, rfl, rfl⟩) <| 
  mA0 rfl <| 
  mA0 rfl <| 
  mA0 rfl <| 
  mA0 rfl <| 
  mA0 rfl <| 
  mA1 rfl (Or.inl ⟨rfl, rfl⟩) <| 
  mA0 rfl <| 
  mA1 rfl (Or.inl ⟨rfl, rfl⟩) <| trivial

theorem mc_359 : mAllP 359 mt_359 :=
  mA0 rfl <| 
  mA0 rfl <| 
  mA0 rfl <| 
  mA0 rfl <| 
  mA0 rfl <| 
  mA1 rfl (⟨⟨Nat.le_of_ble_eq_true rfl, Nat.le_of_ble_eq_true rfl, Nat.le_of_ble_eq_true rfl, cal_159⟩, rfl, gw_1313, gw_1314, gw_1315, _, rfl, rfl⟩) <| 
  mA0 rfl <| 
  mA0 rfl <| 
  mA0 rfl <| 
  mA0 rfl <| 
  mA0 rfl <| 
  mA1 rfl (Or.inl ⟨rfl, rfl⟩) <| 
  mA0 rfl <| 
  mA1 rfl (Or.inl ⟨rfl, rfl⟩) <| trivial

theorem mc_360 : mAllP 360 mt_360 :=
  mA0 rfl <| 
  mA0 rfl <| 
  mA0 rfl <| 
  mA0 rfl <| 
  mA1 rfl (⟨⟨Nat.le_of_ble_eq_true rfl, Nat.le_of_ble_eq_true rfl, Nat.le_of_ble_eq_true rfl, cal_160⟩, rfl, gw_1346, gw_1347, gw_1348, _, rfl, rfl⟩) <| 
  mA0 rfl <| 
  mA0 rfl <| 
  mA0 rfl <| 
  mA0 rfl <| 
  mA0 rfl <| 
  mA1 rfl (Or.inl ⟨rfl, rfl⟩) <| 
  mA0 rfl <| 
  mA1 rfl (Or.inl ⟨rfl, rfl⟩) <| trivial

theorem mc_361 : mAllP 361 mt_361 :=
  mA0 rfl <| 
  mA0 rfl <| 
  mA0 rfl <| 
  mA0 rfl <| 
  mA1 rfl (⟨⟨Nat.le_of_ble_eq_true rfl, Nat.le_of_ble_eq_true rfl, Nat.le_of_ble_eq_true rfl, cal_162⟩, rfl, gw_1353, gw_1354, gw_1355, _, rfl, rfl⟩) <| 
  mA0 rfl <| 
  mA0 rfl <| 
  mA0 rfl <| 
  mA0 rfl <| 
  mA0 rfl <| 
  mA1 rfl (Or.inl ⟨rfl, rfl⟩) <| 
  mA0 rfl <| 
  mA1 rfl (Or.inl ⟨rfl, rfl⟩) <| trivial

theorem mc_362 : mAllP 362 mt_362 :=
  mA0 rfl <| 
  mA0 rfl <| 
  mA0 rfl <| 
  mA0 rfl <| 
  mA0 rfl <| 
  mA1 rfl (⟨⟨Nat.le_of_ble_eq_true rfl, Nat.le_of_ble_eq_true rfl, Nat.le_of_ble_eq_true rfl, cal_163⟩, rfl, gw_1365, gw_1366, gw_1367, _, rfl, rfl⟩) <| 
  mA0 rfl <| 
  mA0 rfl <| 
  mA0 rfl <| 
  mA0 rfl <| 
  mA0 rfl <| 
  mA1 rfl (Or.inl ⟨rfl, rfl⟩) <| 
  mA0 rfl <| 
  mA1 rfl (Or.inl ⟨rfl, rfl⟩) <| trivial

theorem mc_363 : mAllP 363 mt_363 :=
  mA0 rfl <| 
  mA0 rfl <| 
  mA0 rfl <| 
  mA0 rfl <| 
  mA0 rfl <| 
  mA0 rfl <| 
  mA1 rfl (⟨⟨Nat.le_of_ble_eq_true rfl, Nat.le_of_ble_eq_true rfl, Nat.le_of_ble_eq_true rfl, cal_164⟩, rfl, gw_1399, gw_1400, gw_1401, _, rfl, rfl⟩) <| 
  mA0 rfl <| 
  mA0 rfl <| 
  mA0 rfl <| 
  mA0 rfl <| 
  mA0 rfl <| 
  mA1 rfl (Or.inl ⟨rfl, rfl⟩) <| 
  mA0 rfl <| 
  mA1 rfl (Or.inl ⟨rfl, rfl⟩) <| trivial

theorem mc_364_0 : mAllP 364 mt_364_0 :=
  mA1 rfl (⟨_, rfl, gw_21, gw_22, gw_1⟩) <| 
  mA0 rfl <| 
  mA1 rfl (⟨⟨Nat.le_of_ble_eq_true rfl, Nat.le_of_ble_eq_true rfl, Nat.le_of_ble_eq_true rfl, cal_127⟩, rfl, rfl, (fun E => ⟨(100000, 0), rfl, mNone _⟩), gw_24, rfl, Or.inl gw_23⟩) <| 
  mA0 rfl <| 
  mA1 rfl (⟨_, rfl, gw_1434, gw_1435, gw_13⟩) <| 
  mA0 rfl <| 
  mA1 rfl (⟨⟨Nat.le_of_ble_eq_true rfl, Nat.le_of_ble_eq_true rfl, Nat.le_of_ble_eq_true rfl, cal_207⟩, rfl, rfl, (fun E => ⟨(100000, 0), rfl, mNone _⟩), gw_1437, rfl, Or.inl gw_1436⟩) <| 
  mA0 rfl <| 
  mA0 rfl <| 
  mA1 rfl (gw_2116) <| 
  mA0 rfl <| 
  mA0 rfl <| 
  mA0 rfl <| 
  mA0 rfl <| 
  mA0 rfl <| 
  mA0 rfl <| 
  mA0 rfl <| 
  mA0 rfl <| 
  mA0 rfl <| 
  mA0 rfl <| 
  mA0 rfl <| 
  mA0 rfl <| 
  mA0 rfl <| 
  mA0 rfl <| 
  mA0 rfl <| 
  mA0 rfl <| 
  mA0 rfl <| 
  mA0 rfl <| 
  mA0 rfl <| 
  mA0 rfl <| 
  mA0 rfl <| 
  mA0 rfl <| 
  mA1 rfl (⟨⟨Nat.le_of_ble_eq_true rfl, Nat.le_of_ble_eq_true rfl, Nat.le_of_ble_eq_true rfl, cal_331⟩, gw_417, Or.inl gw_416⟩) <| 
  mA0 rfl <| 
  mA0 rfl <| 
  mA0 rfl <| 
  mA0 rfl <| 
  mA0 rfl <| 
  mA0 rfl <| 
  mA0 rfl <| 
  mA1 rfl (⟨⟨Nat.le_of_ble_eq_true rfl, Nat.le_of_ble_eq_true rfl, Nat.le_of_ble_eq_true rfl, cal_220⟩, rfl, gw_1663, gw_1664, gw_1665, _, rfl, rfl⟩) <| 
  mA0 rfl <| 
  mA0 rfl <| 
  mA1 rfl (⟨⟨Nat.le_of_ble_eq_true rfl, Nat.le_of_ble_eq_true rfl, Nat.le_of_ble_eq_true rfl, cal_209⟩, rfl, gw_1659, gw_1660, gw_1661, _, rfl, rfl⟩) <| 
  mA0 rfl <| 
  mA0 rfl <| 
  mA0 rfl <| 
  mA1 rfl (Or.inr ⟨by decide, rfl⟩) <| 
  mA0 rfl <| 
  mA0 rfl <| 
  mA0 rfl <| 
  mA0 rfl <| 
  mA0 rfl <| 
  mA0 rfl <| 
  mA0 rfl <| 
  mA0 rfl <| 
  mA0 rfl <| 
  mA0 rfl <| 
  mA1 rfl (Or.inr ⟨by decide, rfl⟩) <| 
  mA0 rfl <| 
  mA0 rfl <| 
  mA0 rfl <| 
  mA0 rfl <| 
  mA0 rfl <| 
  mA0 rfl <| 
  mA0 rfl <| 
  mA0 rfl <| 
  mA0 rfl <| 
  mA0 rfl <| 
  mA0 rfl <| 
  mA0 rfl <| 
  mA0 rfl <| 
  mA0 rfl <| 
  mA0 rfl <| 
  mA0 rfl <| 
  mA0 rfl <| 
  mA0 rfl <| 
  mA1 rfl (⟨⟨Nat.le_of_ble_eq_true rfl, Nat.le_of_ble_eq_true rfl, Nat.le_of_ble_eq_true rfl, cal_332⟩, gw_523, Or.inl gw_522⟩) <| 
  mA0 rfl <| 
  mA0 rfl <| 
  mA0 rfl <| 
  mA0 rfl <| 
  mA0 rfl <| 
  mA0 rfl <| 
  mA0 rfl <| 
  mA0 rfl <| 
  mA0 rfl <| 
  mA0 rfl <| 
  mA0 rfl <| 
  mA0 rfl <| 
  mA0 rfl <| 
  mA0 rfl <| 
  mA0 rfl <| 
  mA0 rfl <| 
  mA0 rfl <| 
  mA1 rfl (⟨⟨Nat.le_of_ble_eq_true rfl, Nat.le_of_ble_eq_true rfl, Nat.le_of_ble_eq_true rfl, cal_222⟩, rfl, gw_1678, gw_1679, gw_1680, _, rfl, rfl⟩) <| 
  mA0 rfl <| 
  mA0 rfl <| 
  mA1 rfl (⟨⟨Nat.le_of_ble_eq_true rfl, Nat.le_of_ble_eq_true rfl, Nat.le_of_ble_eq_true rfl, cal_209⟩, rfl, gw_1659, gw_1660, gw_1661, _, rfl, rfl⟩) <| 
  mA0 rfl <| 
  mA0 rfl <| 
  mA0 rfl <| 
  mA1 rfl (Or.inr ⟨by decide, rfl⟩) <| 
  mA0 rfl <| 
  mA0 rfl <| 
  mA0 rfl <| 
  mA0 rfl <| 
  mA0 rfl <| 
  mA0 rfl <| 
  mA0 rfl <| 
  mA0 rfl <| 
  mA0 rfl <| 
  mA0 rfl <| 
  mA1 rfl (Or.inr ⟨by decide, rfl⟩) <| 
  mA0 rfl <| 
  mA0 rfl <| 
  mA0 rfl <| 
  mA1 rfl (⟨⟨Nat.le_of_ble_eq_true rfl, Nat.le_of_ble_eq_true rfl, Nat.le_of_ble_eq_true rfl, cal_333⟩, gw_554, Or.inl gw_553⟩) <| 
  mA0 rfl <| 
  mA0 rfl <| trivial

theorem mc_364_1 : mAllP 364 mt_364_1 :=
  mA1 rfl (⟨⟨Nat.le_of_ble_eq_true rfl, Nat.le_of_ble_eq_true rfl, Nat.le_of_ble_eq_true rfl, cal_225⟩, rfl, gw_1692, gw_1693, gw_1694, _, rfl, rfl⟩) <| 
  mA0 rfl <| 
  mA0 rfl <| 
  mA1 rfl (⟨⟨Nat.le_of_ble_eq_true rfl, Nat.le_of_ble_eq_true rfl, Nat.le_of_ble_eq_true rfl, cal_209⟩, rfl, gw_1659, gw_1660, gw_1661, _, rfl, rfl⟩) <| 
  mA0 rfl <| 
  mA0 rfl <| 
  mA0 rfl <| 
  mA1 rfl (Or.inr ⟨by decide, rfl⟩) <| 
  mA0 rfl <| 
  mA0 rfl <| 
  mA0 rfl <| 
  mA0 rfl <| 
  mA0 rfl <| 
  mA0 rfl <| 
  mA0 rfl <| 
  mA0 rfl <| 
  mA0 rfl <| 
  mA0 rfl <| 
  mA1 rfl (Or.inr ⟨by decide, rfl⟩) <| 
  mA0 rfl <| 
  mA0 rfl <| 
  mA1 rfl (⟨⟨Nat.le_of_ble_eq_true rfl, Nat.le_of_ble_eq_true rfl, Nat.le_of_ble_eq_true rfl, cal_131⟩, rfl, gw_362, gw_363, gw_364, _, rfl, rfl⟩) <| 
  mA0 rfl <| 
  mA1 rfl (⟨⟨Nat.le_of_ble_eq_true rfl, Nat.le_of_ble_eq_true rfl, Nat.le_of_ble_eq_true rfl, cal_226⟩, rfl, gw_1707, gw_1708, gw_1709, _, rfl, rfl⟩) <| 
  mA0 rfl <| 
  mA0 rfl <| 
  mA1 rfl (Or.inr ⟨by decide, rfl⟩) <| 
  mA0 rfl <| 
  mA0 rfl <| 
  mA1 rfl (⟨⟨Nat.le_of_ble_eq_true rfl, Nat.le_of_ble_eq_true rfl, Nat.le_of_ble_eq_true rfl, cal_334⟩, gw_596, Or.inl gw_595⟩) <| 
  mA0 rfl <| 
  mA0 rfl <| 
  mA1 rfl (⟨⟨Nat.le_of_ble_eq_true rfl, Nat.le_of_ble_eq_true rfl, Nat.le_of_ble_eq_true rfl, cal_246⟩, rfl, gw_1711, gw_1712, gw_1713, _, rfl, rfl⟩) <| 
  mA0 rfl <| 
  mA0 rfl <| 
  mA1 rfl (⟨⟨Nat.le_of_ble_eq_true rfl, Nat.le_of_ble_eq_true rfl, Nat.le_of_ble_eq_true rfl, cal_209⟩, rfl, gw_1659, gw_1660, gw_1661, _, rfl, rfl⟩) <| 
  mA0 rfl <| 
  mA0 rfl <| 
  mA0 rfl <| 
  mA1 rfl (Or.inr ⟨by decide, rfl⟩) <| 
  mA0 rfl <| 
  mA0 rfl <| 
  mA0 rfl <| 
  mA0 rfl <| 
  mA0 rfl <| 
  mA0 rfl <| 
  mA0 rfl <| 
  mA0 rfl <| 
  mA0 rfl <| 
  mA0 rfl <| 
  mA1 rfl (Or.inr ⟨by decide, rfl⟩) <| 
  mA0 rfl <| 
  mA0 rfl <| 
  mA0 rfl <| 
  mA0 rfl <| 
  mA0 rfl <| 
  mA0 rfl <| 
  mA0 rfl <| 
  mA0 rfl <| 
  mA0 rfl <| 
  mA0 rfl <| 
  mA0 rfl <| 
  mA0 rfl <| 
  mA0 rfl <| 
  mA1 rfl (⟨⟨Nat.le_of_ble_eq_true rfl, Nat.le_of_ble_eq_true rfl, Nat.le_of_ble_eq_true rfl, cal_335⟩, gw_604, Or.inl gw_603⟩) <| 
  mA0 rfl <| 
  mA0 rfl <| 
  mA0 rfl <| 
  mA0 rfl <| 
  mA0 rfl <| 
  mA0 rfl <| 
  mA0 rfl <| 
  mA0 rfl <| 
  mA0 rfl <| 
  mA0 rfl <| 
  mA0 rfl <| 
  mA0 rfl <| 
  mA1 rfl (⟨⟨Nat.le_of_ble_eq_true rfl, Nat.le_of_ble_eq_true rfl, Nat.le_of_ble_eq_true rfl, cal_248⟩, rfl, gw_1715, gw_1716, gw_1717, _, rfl, rfl⟩) <| 
  mA0 rfl <| 
  mA0 rfl <| 
  mA1 rfl (⟨⟨Nat.le_of_ble_eq_true rfl, Nat.le_of_ble_eq_true rfl, Nat.le_of_ble_eq_true rfl, cal_209⟩, rfl, gw_1659, gw_1660, gw_1661, _, rfl, rfl⟩) <| 
  mA0 rfl <| 
  mA0 rfl <| 
  mA0 rfl <| 
  mA1 rfl (Or.inr ⟨by decide, rfl⟩) <| 
  mA0 rfl <| 
  mA0 rfl <| 
  mA0 rfl <| 
  mA0 rfl <| 
  mA0 rfl <| 
  mA0 rfl <| 
  mA0 rfl <| 
  mA0 rfl <| 
  mA0 rfl <| 
  mA0 rfl <| 
  mA1 rfl (Or.inr ⟨by decide, rfl⟩) <| 
  mA0 rfl <| 
  mA0 rfl <| 
  mA0 rfl <| 
  mA0 rfl <| 
  mA0 rfl <| 
  mA0 rfl <| 
  mA0 rfl <| 
  mA0 rfl <| 
  mA0 rfl <| 
  mA0 rfl <| 
  mA0 rfl <| 
  mA0 rfl <| 
  mA0 rfl <| 
  mA1 rfl (⟨⟨Nat.le_of_ble_eq_true rfl, Nat.le_of_ble_eq_true rfl, Nat.le_of_ble_eq_true rfl, cal_336⟩, gw_895, Or.inl gw_894⟩) <| 
  mA0 rfl <| 
  mA0 rfl <| 
  mA0 rfl <| 
  mA0 rfl <| 
  mA0 rfl <| 
  mA0 rfl <| 
  mA0 rfl <| 
  mA0 rfl <| 
  mA0 rfl <| 
  mA0 rfl <| trivial

theorem mc_364_2 : mAllP 364 mt_364_2 :=
  mA0 rfl <| 
  mA0 rfl <| 
  mA1 rfl (⟨⟨Nat.le_of_ble_eq_true rfl, Nat.le_of_ble_eq_true rfl, Nat.le_of_ble_eq_true rfl, cal_251⟩, rfl, gw_1865, gw_1866, gw_1867, _, rfl, rfl⟩) <| 
  mA0 rfl <| 
  mA0 rfl <| 
  mA1 rfl (⟨⟨Nat.le_of_ble_eq_true rfl, Nat.le_of_ble_eq_true rfl, Nat.le_of_ble_eq_true rfl, cal_209⟩, rfl, gw_1659, gw_1660, gw_1661, _, rfl, rfl⟩) <| 
  mA0 rfl <| 
  mA0 rfl <| 
  mA0 rfl <| 
  mA1 rfl (Or.inr ⟨by decide, rfl⟩) <| 
  mA0 rfl <| 
  mA0 rfl <| 
  mA0 rfl <| 
  mA0 rfl <| 
  mA0 rfl <| 
  mA0 rfl <| 
  mA0 rfl <| 
  mA0 rfl <| 
  mA0 rfl <| 
  mA0 rfl <| 
  mA1 rfl (Or.inr ⟨by decide, rfl⟩) <| 
  mA0 rfl <| 
  mA0 rfl <| 
  mA0 rfl <| 
  mA0 rfl <| 
  mA0 rfl <| 
  mA0 rfl <| 
  mA0 rfl <| 
  mA0 rfl <| 
  mA0 rfl <| 
  mA0 rfl <| 
  mA0 rfl <| 
  mA0 rfl <| 
  mA0 rfl <| 
  mA0 rfl <| 
  mA0 rfl <| 
  mA0 rfl <| 
  mA0 rfl <| 
  mA0 rfl <| 
  mA0 rfl <| 
  mA0 rfl <| 
  mA0 rfl <| 
  mA0 rfl <| 
  mA1 rfl (⟨⟨Nat.le_of_ble_eq_true rfl, Nat.le_of_ble_eq_true rfl, Nat.le_of_ble_eq_true rfl, cal_337⟩, gw_915, Or.inl gw_914⟩) <| 
  mA0 rfl <| 
  mA0 rfl <| 
  mA0 rfl <| 
  mA0 rfl <| 
  mA0 rfl <| 
  mA0 rfl <| 
  mA0 rfl <| 
  mA0 rfl <| 
  mA0 rfl <| 
  mA0 rfl <| 
  mA0 rfl <| 
  mA0 rfl <| 
  mA0 rfl <| 
  mA0 rfl <| 
  mA0 rfl <| 
  mA0 rfl <| 
  mA0 rfl <| 
  mA0 rfl <| 
  mA0 rfl <| 
  mA0 rfl <| 
  mA0 rfl <| 
  mA1 rfl (⟨⟨Nat.le_of_ble_eq_true rfl, Nat.le_of_ble_eq_true rfl, Nat.le_of_ble_eq_true rfl, cal_252⟩, rfl, gw_1877, gw_1878, gw_1879, _, rfl, rfl⟩) <| 
  mA0 rfl <| 
  mA0 rfl <| 
  mA1 rfl (⟨⟨Nat.le_of_ble_eq_true rfl, Nat.le_of_ble_eq_true rfl, Nat.le_of_ble_eq_true rfl, cal_209⟩, rfl, gw_1659, gw_1660, gw_1661, _, rfl, rfl⟩) <| 
  mA0 rfl <| 
  mA0 rfl <| 
  mA0 rfl <| 
  mA1 rfl (Or.inr ⟨by decide, rfl⟩) <| 
  mA0 rfl <| 
  mA0 rfl <| 
  mA0 rfl <| 
  mA0 rfl <| 
  mA0 rfl <| 
  mA0 rfl <| 
  mA0 rfl <| 
  mA0 rfl <| 
  mA0 rfl <| 
  mA0 rfl <| 
  mA0 rfl <| 
  mA0 rfl <| 
  mA0 rfl <| 
  mA1 rfl (Or.inr ⟨by decide, rfl⟩) <| 
  mA0 rfl <| 
  mA0 rfl <| 
  mA0 rfl <| 
  mA0 rfl <| 
  mA0 rfl <| 
  mA0 rfl <| 
  mA0 rfl <| 
  mA0 rfl <| 
  mA0 rfl <| 
  mA0 rfl <| 
  mA0 rfl <| 
  mA0 rfl <| 
  mA0 rfl <| 
  mA0 rfl <| 
  mA0 rfl <| 
  mA0 rfl <| 
  mA0 rfl <| 
  mA1 rfl (⟨⟨Nat.le_of_ble_eq_true rfl, Nat.le_of_ble_eq_true rfl, Nat.le_of_ble_eq_true rfl, cal_338⟩, gw_928, Or.inl gw_927⟩) <| 
  mA0 rfl <| 
  mA0 rfl <| 
  mA0 rfl <| 
  mA0 rfl <| 
  mA0 rfl <| 
  mA0 rfl <| 
  mA0 rfl <| 
  mA0 rfl <| 
  mA0 rfl <| 
  mA0 rfl <| 
  mA0 rfl <| 
  mA0 rfl <| 
  mA0 rfl <| 
  mA0 rfl <| 
  mA0 rfl <| trivial

theorem mc_364_3 : mAllP 364 mt_364_3 :=
  mA0 rfl <| 
  mA1 rfl (⟨⟨Nat.le_of_ble_eq_true rfl, Nat.le_of_ble_eq_true rfl, Nat.le_of_ble_eq_true rfl, cal_281⟩, rfl, gw_1957, gw_1958, gw_1959, _, rfl, rfl⟩) <| 
  mA0 rfl <| 
  mA0 rfl <| 
  mA1 rfl (⟨⟨Nat.le_of_ble_eq_true rfl, Nat.le_of_ble_eq_true rfl, Nat.le_of_ble_eq_true rfl, cal_209⟩, rfl, gw_1659, gw_1660, gw_1661, _, rfl, rfl⟩) <| 
  mA0 rfl <| 
  mA0 rfl <| 
  mA0 rfl <| 
  mA1 rfl (Or.inr ⟨by decide, rfl⟩) <| 
  mA0 rfl <| 
  mA0 rfl <| 
  mA0 rfl <| 
  mA0 rfl <| 
  mA0 rfl <| 
  mA0 rfl <| 
  mA0 rfl <| 
  mA0 rfl <| 
  mA0 rfl <| 
  mA0 rfl <| 
  mA1 rfl (Or.inr ⟨by decide, rfl⟩) <| 
  mA0 rfl <| 
  mA0 rfl <| 
  mA0 rfl <| 
  mA0 rfl <| 
  mA0 rfl <| 
  mA0 rfl <| 
  mA0 rfl <| 
  mA0 rfl <| 
  mA0 rfl <| 
  mA0 rfl <| 
  mA0 rfl <| 
  mA0 rfl <| 
  mA0 rfl <| 
  mA0 rfl <| 
  mA0 rfl <| 
  mA0 rfl <| 
  mA0 rfl <| 
  mA0 rfl <| 
  mA1 rfl (⟨⟨Nat.le_of_ble_eq_true rfl, Nat.le_of_ble_eq_true rfl, Nat.le_of_ble_eq_true rfl, cal_339⟩, gw_936, Or.inl gw_935⟩) <| 
  mA0 rfl <| 
  mA0 rfl <| 
  mA0 rfl <| 
  mA0 rfl <| 
  mA0 rfl <| 
  mA0 rfl <| 
  mA0 rfl <| 
  mA0 rfl <| 
  mA0 rfl <| 
  mA0 rfl <| 
  mA0 rfl <| 
  mA0 rfl <| 
  mA0 rfl <| 
  mA0 rfl <| 
  mA0 rfl <| 
  mA0 rfl <| 
  mA0 rfl <| 
  mA1 rfl (⟨⟨Nat.le_of_ble_eq_true rfl, Nat.le_of_ble_eq_true rfl, Nat.le_of_ble_eq_true rfl, cal_283⟩, rfl, gw_1961, gw_1962, gw_1963, _, rfl, rfl⟩) <| 
  mA0 rfl <| 
  mA0 rfl <| 
  mA1 rfl (⟨⟨Nat.le_of_ble_eq_true rfl, Nat.le_of_ble_eq_true rfl, Nat.le_of_ble_eq_true rfl, cal_209⟩, rfl, gw_1659, gw_1660, gw_1661, _, rfl, rfl⟩) <| 
  mA0 rfl <| 
  mA0 rfl <| 
  mA0 rfl <| 
  mA1 rfl (Or.inr ⟨by decide, rfl⟩) <| 
  mA0 rfl <| 
  mA0 rfl <| 
  mA0 rfl <| 
  mA0 rfl <| 
  mA0 rfl <| 
  mA0 rfl <| 
  mA0 rfl <| 
  mA0 rfl <| 
  mA0 rfl <| 
  mA0 rfl <| 
  mA1 rfl (Or.inr ⟨by decide, rfl⟩) <| 
  mA0 rfl <| 
  mA0 rfl <| 
  mA0 rfl <| 
  mA0 rfl <| 
  mA0 rfl <| 
  mA0 rfl <| 
  mA0 rfl <| 
  mA0 rfl <| 
  mA0 rfl <| 
  mA0 rfl <| 
  mA0 rfl <| 
  mA0 rfl <| 
  mA0 rfl <| 
  mA0 rfl <| 
  mA0 rfl <| 
  mA0 rfl <| 
  mA0 rfl <| 
  mA0 rfl <| 
  mA1 rfl (⟨⟨Nat.le_of_ble_eq_true rfl, Nat.le_of_ble_eq_true rfl, Nat.le_of_ble_eq_true rfl, cal_340⟩, gw_970, Or.inl gw_969⟩) <| 
  mA0 rfl <| 
  mA0 rfl <| 
  mA0 rfl <| 
  mA0 rfl <| 
  mA0 rfl <| 
  mA0 rfl <| 
  mA0 rfl <| 
  mA0 rfl <| 
  mA0 rfl <| 
  mA0 rfl <| 
  mA0 rfl <| 
  mA0 rfl <| 
  mA0 rfl <| 
  mA0 rfl <| 
  mA0 rfl <| 
  mA0 rfl <| 
  mA0 rfl <| 
  mA1 rfl (⟨⟨Nat.le_of_ble_eq_true rfl, Nat.le_of_ble_eq_true rfl, Nat.le_of_ble_eq_true rfl, cal_284⟩, rfl, gw_1969, gw_1970, gw_1971, _, rfl, rfl⟩) <| 
  mA0 rfl <| 
  mA0 rfl <| 
  mA1 rfl (⟨⟨Nat.le_of_ble_eq_true rfl, Nat.le_of_ble_eq_true rfl, Nat.le_of_ble_eq_true rfl, cal_209⟩, rfl, gw_1659, gw_1660, gw_1661, _, rfl, rfl⟩) <| 
  mA0 rfl <| 
  mA0 rfl <| 
  mA0 rfl <| 
  mA1 rfl (Or.inr ⟨by decide, rfl⟩) <| 
  mA0 rfl <| trivial

theorem mc_364_4 : mAllP 364 mt_364_4 :=
  mA0 rfl <| 
  mA0 rfl <| 
  mA0 rfl <| 
  mA0 rfl <| 
  mA0 rfl <| 
  mA0 rfl <| 
  mA0 rfl <| 
  mA0 rfl <| 
  mA0 rfl <| 
  mA1 rfl (Or.inr ⟨by decide, rfl⟩) <| 
  mA0 rfl <| 
  mA0 rfl <| 
  mA0 rfl <| 
  mA0 rfl <| 
  mA0 rfl <| 
  mA0 rfl <| 
  mA0 rfl <| 
  mA0 rfl <| 
  mA0 rfl <| 
  mA0 rfl <| 
  mA0 rfl <| 
  mA0 rfl <| 
  mA0 rfl <| 
  mA0 rfl <| 
  mA0 rfl <| 
  mA0 rfl <| 
  mA0 rfl <| 
  mA0 rfl <| 
  mA1 rfl (⟨⟨Nat.le_of_ble_eq_true rfl, Nat.le_of_ble_eq_true rfl, Nat.le_of_ble_eq_true rfl, cal_341⟩, gw_987, Or.inl gw_986⟩) <| 
  mA0 rfl <| 
  mA0 rfl <| 
  mA0 rfl <| 
  mA0 rfl <| 
  mA0 rfl <| 
  mA0 rfl <| 
  mA0 rfl <| 
  mA0 rfl <| 
  mA0 rfl <| 
  mA0 rfl <| 
  mA0 rfl <| 
  mA0 rfl <| 
  mA0 rfl <| 
  mA0 rfl <| 
  mA0 rfl <| 
  mA0 rfl <| 
  mA0 rfl <| 
  mA1 rfl (⟨⟨Nat.le_of_ble_eq_true rfl, Nat.le_of_ble_eq_true rfl, Nat.le_of_ble_eq_true rfl, cal_286⟩, rfl, gw_1973, gw_1974, gw_1975, _, rfl, rfl⟩) <| 
  mA0 rfl <| 
  mA0 rfl <| 
  mA1 rfl (⟨⟨Nat.le_of_ble_eq_true rfl, Nat.le_of_ble_eq_true rfl, Nat.le_of_ble_eq_true rfl, cal_209⟩, rfl, gw_1659, gw_1660, gw_1661, _, rfl, rfl⟩) <| 
  mA0 rfl <| 
  mA0 rfl <| 
  mA0 rfl <| 
  mA1 rfl (Or.inr ⟨by decide, rfl⟩) <| 
  mA0 rfl <| 
  mA0 rfl <| 
  mA0 rfl <| 
  mA0 rfl <| 
  mA0 rfl <| 
  mA0 rfl <| 
  mA0 rfl <| 
  mA0 rfl <| 
  mA0 rfl <| 
  mA0 rfl <| 
  mA0 rfl <| 
  mA0 rfl <| 
  mA0 rfl <| 
  mA1 rfl (Or.inr ⟨by decide, rfl⟩) <| 
  mA0 rfl <| 
  mA0 rfl <| 
  mA0 rfl <| 
  mA0 rfl <| 
  mA0 rfl <| 
  mA0 rfl <| 
  mA0 rfl <| 
  mA0 rfl <| 
  mA0 rfl <| 
  mA0 rfl <| 
  mA0 rfl <| 
  mA0 rfl <| 
  mA0 rfl <| 
  mA0 rfl <| 
  mA0 rfl <| 
  mA0 rfl <| 
  mA0 rfl <| 
  mA0 rfl <| 
  mA0 rfl <| 
  mA0 rfl <| 
  mA0 rfl <| 
  mA0 rfl <| 
  mA1 rfl (⟨⟨Nat.le_of_ble_eq_true rfl, Nat.le_of_ble_eq_true rfl, Nat.le_of_ble_eq_true rfl, cal_342⟩, gw_1017, Or.inl gw_1016⟩) <| 
  mA0 rfl <| 
  mA0 rfl <| 
  mA0 rfl <| 
  mA0 rfl <| 
  mA0 rfl <| 
  mA0 rfl <| 
  mA0 rfl <| 
  mA0 rfl <| 
  mA0 rfl <| 
  mA0 rfl <| 
  mA0 rfl <| 
  mA0 rfl <| 
  mA0 rfl <| 
  mA0 rfl <| 
  mA0 rfl <| 
  mA0 rfl <| 
  mA0 rfl <| 
  mA0 rfl <| 
  mA0 rfl <| 
  mA0 rfl <| 
  mA0 rfl <| 
  mA1 rfl (⟨⟨Nat.le_of_ble_eq_true rfl, Nat.le_of_ble_eq_true rfl, Nat.le_of_ble_eq_true rfl, cal_287⟩, rfl, gw_1981, gw_1982, gw_1983, _, rfl, rfl⟩) <| 
  mA0 rfl <| 
  mA0 rfl <| 
  mA1 rfl (⟨⟨Nat.le_of_ble_eq_true rfl, Nat.le_of_ble_eq_true rfl, Nat.le_of_ble_eq_true rfl, cal_209⟩, rfl, gw_1659, gw_1660, gw_1661, _, rfl, rfl⟩) <| 
  mA0 rfl <| 
  mA0 rfl <| 
  mA0 rfl <| 
  mA1 rfl (Or.inr ⟨by decide, rfl⟩) <| trivial

theorem mc_364_5 : mAllP 364 mt_364_5 :=
  mA0 rfl <| 
  mA0 rfl <| 
  mA0 rfl <| 
  mA0 rfl <| 
  mA0 rfl <| 
  mA0 rfl <| 
  mA0 rfl <| 
  mA0 rfl <| 
  mA0 rfl <| 
  mA0 rfl <| 
  mA0 rfl <| 
  mA0 rfl <| 
  mA0 rfl <| 
  mA1 rfl (Or.inr ⟨by decide, rfl⟩) <| 
  mA0 rfl <| 
  mA0 rfl <| 
  mA0 rfl <| 
  mA0 rfl <| 
  mA0 rfl <| 
  mA0 rfl <| 
  mA0 rfl <| 
  mA0 rfl <| 
  mA1 rfl (⟨⟨Nat.le_of_ble_eq_true rfl, Nat.le_of_ble_eq_true rfl, Nat.le_of_ble_eq_true rfl, cal_343⟩, gw_1029, Or.inl gw_1028⟩) <| 
  mA0 rfl <| 
  mA0 rfl <| 
  mA0 rfl <| 
  mA0 rfl <| 
  mA0 rfl <| 
  mA0 rfl <| 
  mA0 rfl <| 
  mA1 rfl (⟨⟨Nat.le_of_ble_eq_true rfl, Nat.le_of_ble_eq_true rfl, Nat.le_of_ble_eq_true rfl, cal_312⟩, rfl, gw_2052, gw_2053, gw_2054, _, rfl, rfl⟩) <| 
  mA0 rfl <| 
  mA0 rfl <| 
  mA1 rfl (⟨⟨Nat.le_of_ble_eq_true rfl, Nat.le_of_ble_eq_true rfl, Nat.le_of_ble_eq_true rfl, cal_209⟩, rfl, gw_1659, gw_1660, gw_1661, _, rfl, rfl⟩) <| 
  mA0 rfl <| 
  mA0 rfl <| 
  mA0 rfl <| 
  mA1 rfl (Or.inr ⟨by decide, rfl⟩) <| 
  mA0 rfl <| 
  mA0 rfl <| 
  mA0 rfl <| 
  mA0 rfl <| 
  mA0 rfl <| 
  mA0 rfl <| 
  mA0 rfl <| 
  mA0 rfl <| 
  mA0 rfl <| 
  mA0 rfl <| 
  mA1 rfl (Or.inr ⟨by decide, rfl⟩) <| 
  mA0 rfl <| 
  mA0 rfl <| 
  mA0 rfl <| 
  mA0 rfl <| 
  mA0 rfl <| 
  mA0 rfl <| 
  mA0 rfl <| 
  mA0 rfl <| 
  mA0 rfl <| 
  mA0 rfl <| 
  mA0 rfl <| 
  mA0 rfl <| 
  mA0 rfl <| 
  mA1 rfl (⟨⟨Nat.le_of_ble_eq_true rfl, Nat.le_of_ble_eq_true rfl, Nat.le_of_ble_eq_true rfl, cal_344⟩, gw_1048, Or.inl gw_1047⟩) <| 
  mA0 rfl <| 
  mA0 rfl <| 
  mA0 rfl <| 
  mA0 rfl <| 
  mA0 rfl <| 
  mA0 rfl <| 
  mA0 rfl <| 
  mA0 rfl <| 
  mA0 rfl <| 
  mA0 rfl <| 
  mA0 rfl <| 
  mA0 rfl <| 
  mA1 rfl (⟨⟨Nat.le_of_ble_eq_true rfl, Nat.le_of_ble_eq_true rfl, Nat.le_of_ble_eq_true rfl, cal_314⟩, rfl, gw_2056, gw_2057, gw_2058, _, rfl, rfl⟩) <| 
  mA0 rfl <| 
  mA0 rfl <| 
  mA1 rfl (⟨⟨Nat.le_of_ble_eq_true rfl, Nat.le_of_ble_eq_true rfl, Nat.le_of_ble_eq_true rfl, cal_209⟩, rfl, gw_1659, gw_1660, gw_1661, _, rfl, rfl⟩) <| 
  mA0 rfl <| 
  mA0 rfl <| 
  mA0 rfl <| 
  mA1 rfl (Or.inr ⟨by decide, rfl⟩) <| 
  mA0 rfl <| 
  mA0 rfl <| 
  mA0 rfl <| 
  mA0 rfl <| 
  mA0 rfl <| 
  mA0 rfl <| 
  mA0 rfl <| 
  mA0 rfl <| 
  mA0 rfl <| 
  mA0 rfl <| 
  mA1 rfl (Or.inr ⟨by decide, rfl⟩) <| 
  mA0 rfl <| 
  mA0 rfl <| 
  mA0 rfl <| 
  mA0 rfl <| 
  mA0 rfl <| 
  mA0 rfl <| 
  mA0 rfl <| 
  mA0 rfl <| 
  mA0 rfl <| 
  mA0 rfl <| 
  mA0 rfl <| 
  mA0 rfl <| 
  mA0 rfl <| 
  mA1 rfl (⟨⟨Nat.le_of_ble_eq_true rfl, Nat.le_of_ble_eq_true rfl, Nat.le_of_ble_eq_true rfl, cal_345⟩, gw_1061, Or.inl gw_1060⟩) <| 
  mA0 rfl <| 
  mA0 rfl <| 
  mA0 rfl <| 
  mA0 rfl <| 
  mA0 rfl <| 
  mA0 rfl <| 
  mA0 rfl <| 
  mA0 rfl <| 
  mA0 rfl <| 
  mA0 rfl <| 
  mA0 rfl <| 
  mA0 rfl <| trivial

theorem mc_364_6 : mAllP 364 mt_364_6 :=
  mA1 rfl (⟨⟨Nat.le_of_ble_eq_true rfl, Nat.le_of_ble_eq_true rfl, Nat.le_of_ble_eq_true rfl, cal_315⟩, rfl, gw_2064, gw_2065, gw_2066, _, rfl, rfl⟩) <| 
  mA0 rfl <| 
  mA0 rfl <| 
  mA1 rfl (⟨⟨Nat.le_of_ble_eq_true rfl, Nat.le_of_ble_eq_true rfl, Nat.le_of_ble_eq_true rfl, cal_209⟩, rfl, gw_1659, gw_1660, gw_1661, _, rfl, rfl⟩) <| 
  mA0 rfl <| 
  mA0 rfl <| 
  mA0 rfl <| 
  mA1 rfl (Or.inr ⟨by decide, rfl⟩) <| 
  mA0 rfl <| 
  mA0 rfl <| 
  mA0 rfl <| 
  mA0 rfl <| 
  mA0 rfl <| 
  mA0 rfl <| 
  mA0 rfl <| 
  mA0 rfl <| 
  mA0 rfl <| 
  mA0 rfl <| 
  mA1 rfl (Or.inr ⟨by decide, rfl⟩) <| 
  mA0 rfl <| 
  mA0 rfl <| 
  mA0 rfl <| 
  mA0 rfl <| 
  mA0 rfl <| 
  mA0 rfl <| 
  mA0 rfl <| 
  mA0 rfl <| 
  mA0 rfl <| 
  mA0 rfl <| 
  mA0 rfl <| 
  mA0 rfl <| 
  mA0 rfl <| 
  mA1 rfl (⟨⟨Nat.le_of_ble_eq_true rfl, Nat.le_of_ble_eq_true rfl, Nat.le_of_ble_eq_true rfl, cal_346⟩, gw_1088, Or.inl gw_1087⟩) <| 
  mA0 rfl <| 
  mA0 rfl <| 
  mA0 rfl <| 
  mA0 rfl <| 
  mA0 rfl <| 
  mA0 rfl <| 
  mA0 rfl <| 
  mA0 rfl <| 
  mA0 rfl <| 
  mA0 rfl <| 
  mA0 rfl <| 
  mA0 rfl <| 
  mA1 rfl (⟨⟨Nat.le_of_ble_eq_true rfl, Nat.le_of_ble_eq_true rfl, Nat.le_of_ble_eq_true rfl, cal_319⟩, rfl, gw_2084, gw_2085, gw_2086, _, rfl, rfl⟩) <| 
  mA0 rfl <| 
  mA0 rfl <| 
  mA1 rfl (⟨⟨Nat.le_of_ble_eq_true rfl, Nat.le_of_ble_eq_true rfl, Nat.le_of_ble_eq_true rfl, cal_209⟩, rfl, gw_1659, gw_1660, gw_1661, _, rfl, rfl⟩) <| 
  mA0 rfl <| 
  mA0 rfl <| 
  mA0 rfl <| 
  mA1 rfl (Or.inr ⟨by decide, rfl⟩) <| 
  mA0 rfl <| 
  mA0 rfl <| 
  mA0 rfl <| 
  mA0 rfl <| 
  mA0 rfl <| 
  mA0 rfl <| 
  mA0 rfl <| 
  mA0 rfl <| 
  mA0 rfl <| 
  mA0 rfl <| 
  mA1 rfl (Or.inr ⟨by decide, rfl⟩) <| 
  mA0 rfl <| 
  mA0 rfl <| 
  mA0 rfl <| 
  mA1 rfl (⟨⟨Nat.le_of_ble_eq_true rfl, Nat.le_of_ble_eq_true rfl, Nat.le_of_ble_eq_true rfl, cal_347⟩, gw_1112, Or.inl gw_1111⟩) <| 
  mA0 rfl <| 
  mA0 rfl <| 
  mA1 rfl (⟨⟨Nat.le_of_ble_eq_true rfl, Nat.le_of_ble_eq_true rfl, Nat.le_of_ble_eq_true rfl, cal_322⟩, rfl, gw_2088, gw_2089, gw_2090, _, rfl, rfl⟩) <| 
  mA0 rfl <| 
  mA0 rfl <| 
  mA1 rfl (⟨⟨Nat.le_of_ble_eq_true rfl, Nat.le_of_ble_eq_true rfl, Nat.le_of_ble_eq_true rfl, cal_209⟩, rfl, gw_1659, gw_1660, gw_1661, _, rfl, rfl⟩) <| 
  mA0 rfl <| 
  mA0 rfl <| 
  mA0 rfl <| 
  mA1 rfl (Or.inr ⟨by decide, rfl⟩) <| 
  mA0 rfl <| 
  mA0 rfl <| 
  mA0 rfl <| 
  mA0 rfl <| 
  mA0 rfl <| 
  mA0 rfl <| 
  mA0 rfl <| 
  mA0 rfl <| 
  mA0 rfl <| 
  mA0 rfl <| 
  mA1 rfl (Or.inr ⟨by decide, rfl⟩) <| 
  mA0 rfl <| 
  mA0 rfl <| 
  mA0 rfl <| 
  mA0 rfl <| 
  mA0 rfl <| 
  mA0 rfl <| 
  mA0 rfl <| 
  mA0 rfl <| 
  mA0 rfl <| 
  mA0 rfl <| 
  mA0 rfl <| 
  mA0 rfl <| 
  mA0 rfl <| 
  mA1 rfl (⟨⟨Nat.le_of_ble_eq_true rfl, Nat.le_of_ble_eq_true rfl, Nat.le_of_ble_eq_true rfl, cal_348⟩, gw_1142, Or.inl gw_1141⟩) <| 
  mA0 rfl <| 
  mA0 rfl <| 
  mA0 rfl <| 
  mA0 rfl <| 
  mA0 rfl <| 
  mA0 rfl <| 
  mA0 rfl <| 
  mA0 rfl <| 
  mA0 rfl <| 
  mA0 rfl <| 
  mA0 rfl <| 
  mA0 rfl <| 
  mA1 rfl (⟨⟨Nat.le_of_ble_eq_true rfl, Nat.le_of_ble_eq_true rfl, Nat.le_of_ble_eq_true rfl, cal_323⟩, rfl, gw_2100, gw_2101, gw_2102, _, rfl, rfl⟩) <| 
  mA0 rfl <| 
  mA0 rfl <| 
  mA1 rfl (⟨⟨Nat.le_of_ble_eq_true rfl, Nat.le_of_ble_eq_true rfl, Nat.le_of_ble_eq_true rfl, cal_209⟩, rfl, gw_1659, gw_1660, gw_1661, _, rfl, rfl⟩) <| 
  mA0 rfl <| trivial

theorem mc_364_7 : mAllP 364 mt_364_7 :=
  mA0 rfl <| 
  mA0 rfl <| 
  mA1 rfl (Or.inr ⟨by decide, rfl⟩) <| 
  mA0 rfl <| 
  mA0 rfl <| 
  mA0 rfl <| 
  mA0 rfl <| 
  mA0 rfl <| 
  mA0 rfl <| 
  mA0 rfl <| 
  mA0 rfl <| 
  mA0 rfl <| 
  mA0 rfl <| 
  mA1 rfl (Or.inr ⟨by decide, rfl⟩) <| 
  mA0 rfl <| 
  mA0 rfl <| 
  mA1 rfl (⟨⟨Nat.le_of_ble_eq_true rfl, Nat.le_of_ble_eq_true rfl, Nat.le_of_ble_eq_true rfl, cal_147⟩, rfl, gw_368, gw_369, gw_370, _, rfl, rfl⟩) <| 
  mA0 rfl <| 
  mA1 rfl (⟨⟨Nat.le_of_ble_eq_true rfl, Nat.le_of_ble_eq_true rfl, Nat.le_of_ble_eq_true rfl, cal_268⟩, rfl, gw_1890, gw_1891, gw_1892, _, rfl, rfl⟩) <| 
  mA0 rfl <| 
  mA0 rfl <| 
  mA1 rfl (Or.inr ⟨by decide, rfl⟩) <| 
  mA0 rfl <| 
  mA0 rfl <| 
  mA0 rfl <| 
  mA0 rfl <| 
  mA0 rfl <| 
  mA0 rfl <| 
  mA0 rfl <| 
  mA0 rfl <| 
  mA0 rfl <| 
  mA0 rfl <| 
  mA0 rfl <| 
  mA0 rfl <| 
  mA0 rfl <| 
  mA0 rfl <| 
  mA0 rfl <| 
  mA0 rfl <| 
  mA0 rfl <| 
  mA0 rfl <| 
  mA0 rfl <| 
  mA0 rfl <| 
  mA0 rfl <| 
  mA1 rfl (⟨⟨Nat.le_of_ble_eq_true rfl, Nat.le_of_ble_eq_true rfl, Nat.le_of_ble_eq_true rfl, cal_349⟩, gw_1153, Or.inl gw_1152⟩) <| 
  mA0 rfl <| 
  mA0 rfl <| 
  mA0 rfl <| 
  mA0 rfl <| 
  mA0 rfl <| 
  mA0 rfl <| 
  mA0 rfl <| 
  mA0 rfl <| 
  mA0 rfl <| 
  mA0 rfl <| 
  mA0 rfl <| 
  mA0 rfl <| 
  mA0 rfl <| 
  mA0 rfl <| 
  mA0 rfl <| 
  mA0 rfl <| 
  mA0 rfl <| 
  mA0 rfl <| 
  mA0 rfl <| 
  mA0 rfl <| 
  mA0 rfl <| 
  mA1 rfl (⟨⟨Nat.le_of_ble_eq_true rfl, Nat.le_of_ble_eq_true rfl, Nat.le_of_ble_eq_true rfl, cal_269⟩, rfl, gw_1894, gw_1895, gw_1896, _, rfl, rfl⟩) <| 
  mA0 rfl <| 
  mA0 rfl <| 
  mA1 rfl (⟨⟨Nat.le_of_ble_eq_true rfl, Nat.le_of_ble_eq_true rfl, Nat.le_of_ble_eq_true rfl, cal_209⟩, rfl, gw_1659, gw_1660, gw_1661, _, rfl, rfl⟩) <| 
  mA0 rfl <| 
  mA0 rfl <| 
  mA0 rfl <| 
  mA1 rfl (Or.inr ⟨by decide, rfl⟩) <| 
  mA0 rfl <| 
  mA0 rfl <| 
  mA0 rfl <| 
  mA0 rfl <| 
  mA0 rfl <| 
  mA0 rfl <| 
  mA0 rfl <| 
  mA0 rfl <| 
  mA0 rfl <| 
  mA0 rfl <| 
  mA1 rfl (Or.inr ⟨by decide, rfl⟩) <| 
  mA0 rfl <| 
  mA0 rfl <| 
  mA0 rfl <| 
  mA0 rfl <| 
  mA0 rfl <| 
  mA0 rfl <| 
  mA0 rfl <| 
  mA0 rfl <| 
  mA1 rfl (⟨⟨Nat.le_of_ble_eq_true rfl, Nat.le_of_ble_eq_true rfl, Nat.le_of_ble_eq_true rfl, cal_350⟩, gw_1167, Or.inl gw_1166⟩) <| 
  mA0 rfl <| 
  mA0 rfl <| 
  mA0 rfl <| 
  mA0 rfl <| 
  mA0 rfl <| 
  mA0 rfl <| 
  mA0 rfl <| 
  mA1 rfl (⟨⟨Nat.le_of_ble_eq_true rfl, Nat.le_of_ble_eq_true rfl, Nat.le_of_ble_eq_true rfl, cal_253⟩, rfl, gw_1881, gw_1882, gw_1883, _, rfl, rfl⟩) <| 
  mA0 rfl <| 
  mA0 rfl <| 
  mA1 rfl (⟨⟨Nat.le_of_ble_eq_true rfl, Nat.le_of_ble_eq_true rfl, Nat.le_of_ble_eq_true rfl, cal_209⟩, rfl, gw_1659, gw_1660, gw_1661, _, rfl, rfl⟩) <| 
  mA0 rfl <| 
  mA0 rfl <| 
  mA0 rfl <| 
  mA1 rfl (Or.inr ⟨by decide, rfl⟩) <| 
  mA0 rfl <| 
  mA0 rfl <| 
  mA0 rfl <| 
  mA0 rfl <| 
  mA0 rfl <| 
  mA0 rfl <| 
  mA0 rfl <| 
  mA0 rfl <| 
  mA0 rfl <| 
  mA0 rfl <| 
  mA1 rfl (Or.inr ⟨by decide, rfl⟩) <| 
  mA0 rfl <| trivial

theorem mc_364_8 : mAllP 364 mt_364_8 :=
  mA0 rfl <| 
  mA0 rfl <| 
  mA0 rfl <| 
  mA0 rfl <| 
  mA0 rfl <| 
  mA0 rfl <| 
  mA0 rfl <| 
  mA0 rfl <| 
  mA0 rfl <| 
  mA0 rfl <| 
  mA0 rfl <| 
  mA0 rfl <| 
  mA1 rfl (⟨⟨Nat.le_of_ble_eq_true rfl, Nat.le_of_ble_eq_true rfl, Nat.le_of_ble_eq_true rfl, cal_351⟩, gw_1174, Or.inl gw_1173⟩) <| 
  mA0 rfl <| 
  mA0 rfl <| 
  mA0 rfl <| 
  mA0 rfl <| 
  mA0 rfl <| 
  mA0 rfl <| 
  mA0 rfl <| 
  mA0 rfl <| 
  mA0 rfl <| 
  mA0 rfl <| 
  mA0 rfl <| 
  mA0 rfl <| 
  mA1 rfl (⟨⟨Nat.le_of_ble_eq_true rfl, Nat.le_of_ble_eq_true rfl, Nat.le_of_ble_eq_true rfl, cal_254⟩, rfl, gw_1885, gw_1886, gw_1887, _, rfl, rfl⟩) <| 
  mA0 rfl <| 
  mA0 rfl <| 
  mA1 rfl (⟨⟨Nat.le_of_ble_eq_true rfl, Nat.le_of_ble_eq_true rfl, Nat.le_of_ble_eq_true rfl, cal_209⟩, rfl, gw_1659, gw_1660, gw_1661, _, rfl, rfl⟩) <| 
  mA0 rfl <| 
  mA0 rfl <| 
  mA0 rfl <| 
  mA1 rfl (Or.inr ⟨by decide, rfl⟩) <| 
  mA0 rfl <| 
  mA0 rfl <| 
  mA0 rfl <| 
  mA0 rfl <| 
  mA0 rfl <| 
  mA0 rfl <| 
  mA0 rfl <| 
  mA0 rfl <| 
  mA0 rfl <| 
  mA0 rfl <| 
  mA1 rfl (Or.inr ⟨by decide, rfl⟩) <| 
  mA0 rfl <| 
  mA0 rfl <| 
  mA0 rfl <| 
  mA0 rfl <| 
  mA0 rfl <| 
  mA0 rfl <| 
  mA0 rfl <| 
  mA0 rfl <| 
  mA0 rfl <| 
  mA0 rfl <| 
  mA0 rfl <| 
  mA0 rfl <| 
  mA0 rfl <| 
  mA0 rfl <| 
  mA0 rfl <| 
  mA0 rfl <| 
  mA0 rfl <| 
  mA0 rfl <| 
  mA1 rfl (⟨⟨Nat.le_of_ble_eq_true rfl, Nat.le_of_ble_eq_true rfl, Nat.le_of_ble_eq_true rfl, cal_352⟩, gw_1191, Or.inl gw_1190⟩) <| 
  mA0 rfl <| 
  mA0 rfl <| 
  mA0 rfl <| 
  mA0 rfl <| 
  mA0 rfl <| 
  mA0 rfl <| 
  mA0 rfl <| 
  mA0 rfl <| 
  mA0 rfl <| 
  mA0 rfl <| 
  mA0 rfl <| 
  mA0 rfl <| 
  mA0 rfl <| 
  mA0 rfl <| 
  mA0 rfl <| 
  mA0 rfl <| 
  mA0 rfl <| 
  mA1 rfl (⟨⟨Nat.le_of_ble_eq_true rfl, Nat.le_of_ble_eq_true rfl, Nat.le_of_ble_eq_true rfl, cal_270⟩, rfl, gw_1914, gw_1915, gw_1916, _, rfl, rfl⟩) <| 
  mA0 rfl <| 
  mA0 rfl <| 
  mA1 rfl (⟨⟨Nat.le_of_ble_eq_true rfl, Nat.le_of_ble_eq_true rfl, Nat.le_of_ble_eq_true rfl, cal_209⟩, rfl, gw_1659, gw_1660, gw_1661, _, rfl, rfl⟩) <| 
  mA0 rfl <| 
  mA0 rfl <| 
  mA0 rfl <| 
  mA1 rfl (Or.inr ⟨by decide, rfl⟩) <| 
  mA0 rfl <| 
  mA0 rfl <| 
  mA0 rfl <| 
  mA0 rfl <| 
  mA0 rfl <| 
  mA0 rfl <| 
  mA0 rfl <| 
  mA0 rfl <| 
  mA0 rfl <| 
  mA0 rfl <| 
  mA1 rfl (Or.inr ⟨by decide, rfl⟩) <| 
  mA0 rfl <| 
  mA0 rfl <| 
  mA0 rfl <| 
  mA0 rfl <| 
  mA0 rfl <| 
  mA0 rfl <| 
  mA0 rfl <| 
  mA0 rfl <| 
  mA0 rfl <| 
  mA0 rfl <| 
  mA0 rfl <| 
  mA0 rfl <| 
  mA0 rfl <| 
  mA0 rfl <| 
  mA0 rfl <| 
  mA0 rfl <| 
  mA0 rfl <| 
  mA0 rfl <| 
  mA0 rfl <| 
  mA0 rfl <| 
  mA0 rfl <| trivial

theorem mc_364_9 : mAllP 364 mt_364_9 :=
  mA0 rfl <| 
  mA0 rfl <| 
  mA1 rfl (⟨⟨Nat.le_of_ble_eq_true rfl, Nat.le_of_ble_eq_true rfl, Nat.le_of_ble_eq_true rfl, cal_353⟩, gw_1207, Or.inl gw_1206⟩) <| 
  mA0 rfl <| 
  mA0 rfl <| 
  mA0 rfl <| 
  mA0 rfl <| 
  mA0 rfl <| 
  mA0 rfl <| 
  mA0 rfl <| 
  mA0 rfl <| 
  mA0 rfl <| 
  mA0 rfl <| 
  mA0 rfl <| 
  mA0 rfl <| 
  mA0 rfl <| 
  mA0 rfl <| 
  mA0 rfl <| 
  mA0 rfl <| 
  mA0 rfl <| 
  mA0 rfl <| 
  mA0 rfl <| 
  mA0 rfl <| 
  mA0 rfl <| 
  mA0 rfl <| 
  mA1 rfl (⟨⟨Nat.le_of_ble_eq_true rfl, Nat.le_of_ble_eq_true rfl, Nat.le_of_ble_eq_true rfl, cal_272⟩, rfl, gw_1918, gw_1919, gw_1920, _, rfl, rfl⟩) <| 
  mA0 rfl <| 
  mA0 rfl <| 
  mA1 rfl (⟨⟨Nat.le_of_ble_eq_true rfl, Nat.le_of_ble_eq_true rfl, Nat.le_of_ble_eq_true rfl, cal_209⟩, rfl, gw_1659, gw_1660, gw_1661, _, rfl, rfl⟩) <| 
  mA0 rfl <| 
  mA0 rfl <| 
  mA0 rfl <| 
  mA1 rfl (Or.inr ⟨by decide, rfl⟩) <| 
  mA0 rfl <| 
  mA0 rfl <| 
  mA0 rfl <| 
  mA0 rfl <| 
  mA0 rfl <| 
  mA0 rfl <| 
  mA0 rfl <| 
  mA0 rfl <| 
  mA0 rfl <| 
  mA0 rfl <| 
  mA1 rfl (Or.inr ⟨by decide, rfl⟩) <| 
  mA0 rfl <| 
  mA0 rfl <| 
  mA0 rfl <| 
  mA0 rfl <| 
  mA0 rfl <| 
  mA0 rfl <| 
  mA0 rfl <| 
  mA0 rfl <| 
  mA0 rfl <| 
  mA0 rfl <| 
  mA0 rfl <| 
  mA0 rfl <| 
  mA0 rfl <| 
  mA0 rfl <| 
  mA0 rfl <| 
  mA0 rfl <| 
  mA0 rfl <| 
  mA0 rfl <| 
  mA0 rfl <| 
  mA0 rfl <| 
  mA0 rfl <| 
  mA0 rfl <| 
  mA0 rfl <| 
  mA1 rfl (⟨⟨Nat.le_of_ble_eq_true rfl, Nat.le_of_ble_eq_true rfl, Nat.le_of_ble_eq_true rfl, cal_354⟩, gw_1223, Or.inl gw_1222⟩) <| 
  mA0 rfl <| 
  mA0 rfl <| 
  mA0 rfl <| 
  mA0 rfl <| 
  mA0 rfl <| 
  mA0 rfl <| 
  mA0 rfl <| 
  mA0 rfl <| 
  mA0 rfl <| 
  mA0 rfl <| 
  mA0 rfl <| 
  mA0 rfl <| 
  mA0 rfl <| 
  mA0 rfl <| 
  mA0 rfl <| 
  mA0 rfl <| 
  mA0 rfl <| 
  mA0 rfl <| 
  mA0 rfl <| 
  mA0 rfl <| 
  mA0 rfl <| 
  mA0 rfl <| 
  mA1 rfl (⟨⟨Nat.le_of_ble_eq_true rfl, Nat.le_of_ble_eq_true rfl, Nat.le_of_ble_eq_true rfl, cal_275⟩, rfl, gw_1925, gw_1926, gw_1927, _, rfl, rfl⟩) <| 
  mA0 rfl <| 
  mA0 rfl <| 
  mA1 rfl (⟨⟨Nat.le_of_ble_eq_true rfl, Nat.le_of_ble_eq_true rfl, Nat.le_of_ble_eq_true rfl, cal_209⟩, rfl, gw_1659, gw_1660, gw_1661, _, rfl, rfl⟩) <| 
  mA0 rfl <| 
  mA0 rfl <| 
  mA0 rfl <| 
  mA1 rfl (Or.inr ⟨by decide, rfl⟩) <| 
  mA0 rfl <| 
  mA0 rfl <| 
  mA0 rfl <| 
  mA0 rfl <| 
  mA0 rfl <| 
  mA0 rfl <| 
  mA0 rfl <| 
  mA0 rfl <| 
  mA0 rfl <| 
  mA0 rfl <| 
  mA1 rfl (Or.inr ⟨by decide, rfl⟩) <| 
  mA0 rfl <| 
  mA0 rfl <| 
  mA0 rfl <| 
  mA0 rfl <| 
  mA0 rfl <| 
  mA0 rfl <| 
  mA0 rfl <| 
  mA0 rfl <| 
  mA0 rfl <| 
  mA0 rfl <| 
  mA0 rfl <| trivial

theorem mc_364_10 : mAllP 364 mt_364_10 :=
  mA0 rfl <| 
  mA0 rfl <| 
  mA0 rfl <| 
  mA0 rfl <| 
  mA0 rfl <| 
  mA0 rfl <| 
  mA0 rfl <| 
  mA0 rfl <| 
  mA0 rfl <| 
  mA0 rfl <| 
  mA0 rfl <| 
  mA0 rfl <| 
  mA1 rfl (⟨⟨Nat.le_of_ble_eq_true rfl, Nat.le_of_ble_eq_true rfl, Nat.le_of_ble_eq_true rfl, cal_355⟩, gw_1236, Or.inl gw_1235⟩) <| 
  mA0 rfl <| 
  mA0 rfl <| 
  mA0 rfl <| 
  mA0 rfl <| 
  mA0 rfl <| 
  mA0 rfl <| 
  mA0 rfl <| 
  mA0 rfl <| 
  mA0 rfl <| 
  mA0 rfl <| 
  mA0 rfl <| 
  mA0 rfl <| 
  mA0 rfl <| 
  mA0 rfl <| 
  mA0 rfl <| 
  mA0 rfl <| 
  mA0 rfl <| 
  mA0 rfl <| 
  mA0 rfl <| 
  mA0 rfl <| 
  mA0 rfl <| 
  mA0 rfl <| 
  mA1 rfl (⟨⟨Nat.le_of_ble_eq_true rfl, Nat.le_of_ble_eq_true rfl, Nat.le_of_ble_eq_true rfl, cal_276⟩, rfl, gw_1937, gw_1938, gw_1939, _, rfl, rfl⟩) <| 
  mA0 rfl <| 
  mA0 rfl <| 
  mA1 rfl (⟨⟨Nat.le_of_ble_eq_true rfl, Nat.le_of_ble_eq_true rfl, Nat.le_of_ble_eq_true rfl, cal_209⟩, rfl, gw_1659, gw_1660, gw_1661, _, rfl, rfl⟩) <| 
  mA0 rfl <| 
  mA0 rfl <| 
  mA0 rfl <| 
  mA1 rfl (Or.inr ⟨by decide, rfl⟩) <| 
  mA0 rfl <| 
  mA0 rfl <| 
  mA0 rfl <| 
  mA0 rfl <| 
  mA0 rfl <| 
  mA0 rfl <| 
  mA0 rfl <| 
  mA0 rfl <| 
  mA0 rfl <| 
  mA0 rfl <| 
  mA1 rfl (Or.inr ⟨by decide, rfl⟩) <| 
  mA0 rfl <| 
  mA0 rfl <| 
  mA0 rfl <| 
  mA0 rfl <| 
  mA0 rfl <| 
  mA0 rfl <| 
  mA0 rfl <| 
  mA0 rfl <| 
  mA0 rfl <| 
  mA0 rfl <| 
  mA0 rfl <| 
  mA0 rfl <| 
  mA0 rfl <| 
  mA0 rfl <| 
  mA0 rfl <| 
  mA0 rfl <| 
  mA0 rfl <| 
  mA0 rfl <| 
  mA0 rfl <| 
  mA0 rfl <| 
  mA0 rfl <| 
  mA0 rfl <| 
  mA0 rfl <| 
  mA0 rfl <| 
  mA0 rfl <| 
  mA0 rfl <| 
  mA0 rfl <| 
  mA0 rfl <| 
  mA1 rfl (⟨⟨Nat.le_of_ble_eq_true rfl, Nat.le_of_ble_eq_true rfl, Nat.le_of_ble_eq_true rfl, cal_356⟩, gw_1247, Or.inl gw_1246⟩) <| 
  mA0 rfl <| 
  mA0 rfl <| 
  mA0 rfl <| 
  mA0 rfl <| 
  mA0 rfl <| 
  mA0 rfl <| 
  mA0 rfl <| 
  mA0 rfl <| 
  mA0 rfl <| 
  mA0 rfl <| 
  mA0 rfl <| 
  mA0 rfl <| 
  mA0 rfl <| 
  mA0 rfl <| 
  mA0 rfl <| 
  mA0 rfl <| 
  mA0 rfl <| 
  mA0 rfl <| 
  mA0 rfl <| 
  mA0 rfl <| 
  mA0 rfl <| 
  mA0 rfl <| 
  mA0 rfl <| 
  mA0 rfl <| 
  mA0 rfl <| 
  mA0 rfl <| 
  mA0 rfl <| 
  mA1 rfl (⟨⟨Nat.le_of_ble_eq_true rfl, Nat.le_of_ble_eq_true rfl, Nat.le_of_ble_eq_true rfl, cal_280⟩, rfl, gw_1941, gw_1942, gw_1943, _, rfl, rfl⟩) <| 
  mA0 rfl <| 
  mA0 rfl <| 
  mA1 rfl (⟨⟨Nat.le_of_ble_eq_true rfl, Nat.le_of_ble_eq_true rfl, Nat.le_of_ble_eq_true rfl, cal_209⟩, rfl, gw_1659, gw_1660, gw_1661, _, rfl, rfl⟩) <| 
  mA0 rfl <| 
  mA0 rfl <| 
  mA0 rfl <| 
  mA1 rfl (Or.inr ⟨by decide, rfl⟩) <| 
  mA0 rfl <| 
  mA0 rfl <| trivial

theorem mc_364_11 : mAllP 364 mt_364_11 :=
  mA0 rfl <| 
  mA0 rfl <| 
  mA0 rfl <| 
  mA0 rfl <| 
  mA0 rfl <| 
  mA0 rfl <| 
  mA0 rfl <| 
  mA0 rfl <| 
  mA1 rfl (Or.inr ⟨by decide, rfl⟩) <| 
  mA0 rfl <| 
  mA0 rfl <| 
  mA1 rfl (⟨⟨Nat.le_of_ble_eq_true rfl, Nat.le_of_ble_eq_true rfl, Nat.le_of_ble_eq_true rfl, cal_156⟩, rfl, gw_372, gw_373, gw_374, _, rfl, rfl⟩) <| 
  mA0 rfl <| 
  mA1 rfl (⟨⟨Nat.le_of_ble_eq_true rfl, Nat.le_of_ble_eq_true rfl, Nat.le_of_ble_eq_true rfl, cal_288⟩, rfl, gw_1985, gw_1986, gw_1987, _, rfl, rfl⟩) <| 
  mA0 rfl <| 
  mA0 rfl <| 
  mA1 rfl (Or.inr ⟨by decide, rfl⟩) <| 
  mA0 rfl <| 
  mA0 rfl <| 
  mA0 rfl <| 
  mA0 rfl <| 
  mA0 rfl <| 
  mA0 rfl <| 
  mA0 rfl <| 
  mA0 rfl <| 
  mA0 rfl <| 
  mA0 rfl <| 
  mA0 rfl <| 
  mA0 rfl <| 
  mA1 rfl (⟨⟨Nat.le_of_ble_eq_true rfl, Nat.le_of_ble_eq_true rfl, Nat.le_of_ble_eq_true rfl, cal_357⟩, gw_1269, Or.inl gw_1268⟩) <| 
  mA0 rfl <| 
  mA0 rfl <| 
  mA0 rfl <| 
  mA0 rfl <| 
  mA0 rfl <| 
  mA0 rfl <| 
  mA0 rfl <| 
  mA0 rfl <| 
  mA0 rfl <| 
  mA0 rfl <| 
  mA0 rfl <| 
  mA0 rfl <| 
  mA1 rfl (⟨⟨Nat.le_of_ble_eq_true rfl, Nat.le_of_ble_eq_true rfl, Nat.le_of_ble_eq_true rfl, cal_297⟩, rfl, gw_1989, gw_1990, gw_1991, _, rfl, rfl⟩) <| 
  mA0 rfl <| 
  mA0 rfl <| 
  mA1 rfl (⟨⟨Nat.le_of_ble_eq_true rfl, Nat.le_of_ble_eq_true rfl, Nat.le_of_ble_eq_true rfl, cal_209⟩, rfl, gw_1659, gw_1660, gw_1661, _, rfl, rfl⟩) <| 
  mA0 rfl <| 
  mA0 rfl <| 
  mA0 rfl <| 
  mA1 rfl (Or.inr ⟨by decide, rfl⟩) <| 
  mA0 rfl <| 
  mA0 rfl <| 
  mA0 rfl <| 
  mA0 rfl <| 
  mA0 rfl <| 
  mA0 rfl <| 
  mA0 rfl <| 
  mA0 rfl <| 
  mA0 rfl <| 
  mA0 rfl <| 
  mA1 rfl (Or.inr ⟨by decide, rfl⟩) <| 
  mA0 rfl <| 
  mA0 rfl <| 
  mA0 rfl <| 
  mA0 rfl <| 
  mA0 rfl <| 
  mA0 rfl <| 
  mA0 rfl <| 
  mA0 rfl <| 
  mA0 rfl <| 
  mA0 rfl <| 
  mA0 rfl <| 
  mA0 rfl <| 
  mA0 rfl <| 
  mA1 rfl (⟨⟨Nat.le_of_ble_eq_true rfl, Nat.le_of_ble_eq_true rfl, Nat.le_of_ble_eq_true rfl, cal_358⟩, gw_1277, Or.inl gw_1276⟩) <| 
  mA0 rfl <| 
  mA0 rfl <| 
  mA0 rfl <| 
  mA0 rfl <| 
  mA0 rfl <| 
  mA0 rfl <| 
  mA0 rfl <| 
  mA0 rfl <| 
  mA0 rfl <| 
  mA0 rfl <| 
  mA0 rfl <| 
  mA0 rfl <| 
  mA1 rfl (⟨⟨Nat.le_of_ble_eq_true rfl, Nat.le_of_ble_eq_true rfl, Nat.le_of_ble_eq_true rfl, cal_301⟩, rfl, gw_2000, gw_2001, gw_2002, _, rfl, rfl⟩) <| 
  mA0 rfl <| 
  mA0 rfl <| 
  mA1 rfl (⟨⟨Nat.le_of_ble_eq_true rfl, Nat.le_of_ble_eq_true rfl, Nat.le_of_ble_eq_true rfl, cal_209⟩, rfl, gw_1659, gw_1660, gw_1661, _, rfl, rfl⟩) <| 
  mA0 rfl <| 
  mA0 rfl <| 
  mA0 rfl <| 
  mA1 rfl (Or.inr ⟨by decide, rfl⟩) <| 
  mA0 rfl <| 
  mA0 rfl <| 
  mA0 rfl <| 
  mA0 rfl <| 
  mA0 rfl <| 
  mA0 rfl <| 
  mA0 rfl <| 
  mA0 rfl <| 
  mA0 rfl <| 
  mA0 rfl <| 
  mA1 rfl (Or.inr ⟨by decide, rfl⟩) <| 
  mA0 rfl <| 
  mA0 rfl <| 
  mA0 rfl <| 
  mA0 rfl <| 
  mA0 rfl <| 
  mA0 rfl <| 
  mA0 rfl <| 
  mA0 rfl <| 
  mA0 rfl <| 
  mA0 rfl <| 
  mA0 rfl <| 
  mA0 rfl <| 
  mA0 rfl <| 
  mA1 rfl (⟨⟨Nat.le_of_ble_eq_true rfl, Nat.le_of_ble_eq_true rfl, Nat.le_of_ble_eq_true rfl, cal_359⟩, gw_1311, Or.inl gw_1310⟩) <| trivial

theorem mc_364_12 : mAllP 364 mt_364_12 :=
  mA0 rfl <| 
  mA0 rfl <| 
  mA0 rfl <| 
  mA0 rfl <| 
  mA0 rfl <| 
  mA0 rfl <| 
  mA0 rfl <| 
  mA0 rfl <| 
  mA0 rfl <| 
  mA0 rfl <| 
  mA0 rfl <| 
  mA0 rfl <| 
  mA1 rfl (⟨⟨Nat.le_of_ble_eq_true rfl, Nat.le_of_ble_eq_true rfl, Nat.le_of_ble_eq_true rfl, cal_306⟩, rfl, gw_2015, gw_2016, gw_2017, _, rfl, rfl⟩) <| 
  mA0 rfl <| 
  mA0 rfl <| 
  mA1 rfl (⟨⟨Nat.le_of_ble_eq_true rfl, Nat.le_of_ble_eq_true rfl, Nat.le_of_ble_eq_true rfl, cal_209⟩, rfl, gw_1659, gw_1660, gw_1661, _, rfl, rfl⟩) <| 
  mA0 rfl <| 
  mA0 rfl <| 
  mA0 rfl <| 
  mA1 rfl (Or.inr ⟨by decide, rfl⟩) <| 
  mA0 rfl <| 
  mA0 rfl <| 
  mA0 rfl <| 
  mA0 rfl <| 
  mA0 rfl <| 
  mA0 rfl <| 
  mA0 rfl <| 
  mA0 rfl <| 
  mA0 rfl <| 
  mA0 rfl <| 
  mA1 rfl (Or.inr ⟨by decide, rfl⟩) <| 
  mA0 rfl <| 
  mA0 rfl <| 
  mA0 rfl <| 
  mA0 rfl <| 
  mA0 rfl <| 
  mA0 rfl <| 
  mA0 rfl <| 
  mA0 rfl <| 
  mA1 rfl (⟨⟨Nat.le_of_ble_eq_true rfl, Nat.le_of_ble_eq_true rfl, Nat.le_of_ble_eq_true rfl, cal_360⟩, gw_1344, Or.inl gw_1343⟩) <| 
  mA0 rfl <| 
  mA0 rfl <| 
  mA0 rfl <| 
  mA0 rfl <| 
  mA0 rfl <| 
  mA0 rfl <| 
  mA0 rfl <| 
  mA1 rfl (⟨⟨Nat.le_of_ble_eq_true rfl, Nat.le_of_ble_eq_true rfl, Nat.le_of_ble_eq_true rfl, cal_309⟩, rfl, gw_2036, gw_2037, gw_2038, _, rfl, rfl⟩) <| 
  mA0 rfl <| 
  mA0 rfl <| 
  mA1 rfl (⟨⟨Nat.le_of_ble_eq_true rfl, Nat.le_of_ble_eq_true rfl, Nat.le_of_ble_eq_true rfl, cal_209⟩, rfl, gw_1659, gw_1660, gw_1661, _, rfl, rfl⟩) <| 
  mA0 rfl <| 
  mA0 rfl <| 
  mA0 rfl <| 
  mA1 rfl (Or.inr ⟨by decide, rfl⟩) <| 
  mA0 rfl <| 
  mA0 rfl <| 
  mA0 rfl <| 
  mA0 rfl <| 
  mA0 rfl <| 
  mA0 rfl <| 
  mA0 rfl <| 
  mA0 rfl <| 
  mA0 rfl <| 
  mA0 rfl <| 
  mA1 rfl (Or.inr ⟨by decide, rfl⟩) <| 
  mA0 rfl <| 
  mA0 rfl <| 
  mA1 rfl (⟨⟨Nat.le_of_ble_eq_true rfl, Nat.le_of_ble_eq_true rfl, Nat.le_of_ble_eq_true rfl, cal_161⟩, rfl, gw_376, gw_377, gw_378, _, rfl, rfl⟩) <| 
  mA0 rfl <| 
  mA1 rfl (⟨⟨Nat.le_of_ble_eq_true rfl, Nat.le_of_ble_eq_true rfl, Nat.le_of_ble_eq_true rfl, cal_310⟩, rfl, gw_2048, gw_2049, gw_2050, _, rfl, rfl⟩) <| 
  mA0 rfl <| 
  mA0 rfl <| 
  mA1 rfl (Or.inr ⟨by decide, rfl⟩) <| 
  mA0 rfl <| 
  mA0 rfl <| 
  mA0 rfl <| 
  mA0 rfl <| 
  mA0 rfl <| 
  mA0 rfl <| 
  mA0 rfl <| 
  mA1 rfl (⟨⟨Nat.le_of_ble_eq_true rfl, Nat.le_of_ble_eq_true rfl, Nat.le_of_ble_eq_true rfl, cal_361⟩, gw_1351, Or.inl gw_1350⟩) <| 
  mA0 rfl <| 
  mA0 rfl <| 
  mA0 rfl <| 
  mA0 rfl <| 
  mA0 rfl <| 
  mA0 rfl <| 
  mA0 rfl <| 
  mA1 rfl (⟨⟨Nat.le_of_ble_eq_true rfl, Nat.le_of_ble_eq_true rfl, Nat.le_of_ble_eq_true rfl, cal_298⟩, rfl, gw_1996, gw_1997, gw_1998, _, rfl, rfl⟩) <| 
  mA0 rfl <| 
  mA0 rfl <| 
  mA1 rfl (⟨⟨Nat.le_of_ble_eq_true rfl, Nat.le_of_ble_eq_true rfl, Nat.le_of_ble_eq_true rfl, cal_209⟩, rfl, gw_1659, gw_1660, gw_1661, _, rfl, rfl⟩) <| 
  mA0 rfl <| 
  mA0 rfl <| 
  mA0 rfl <| 
  mA1 rfl (Or.inr ⟨by decide, rfl⟩) <| 
  mA0 rfl <| 
  mA0 rfl <| 
  mA0 rfl <| 
  mA0 rfl <| 
  mA0 rfl <| 
  mA0 rfl <| 
  mA0 rfl <| 
  mA0 rfl <| 
  mA0 rfl <| 
  mA0 rfl <| 
  mA1 rfl (Or.inr ⟨by decide, rfl⟩) <| 
  mA0 rfl <| 
  mA0 rfl <| 
  mA0 rfl <| 
  mA0 rfl <| 
  mA0 rfl <| 
  mA0 rfl <| 
  mA0 rfl <| 
  mA0 rfl <| 
  mA0 rfl <| 
  mA0 rfl <| 
  mA0 rfl <| 
  mA0 rfl <| trivial

theorem mc_364_13 : mAllP 364 mt_364_13 :=
  mA0 rfl <| 
  mA1 rfl (⟨⟨Nat.le_of_ble_eq_true rfl, Nat.le_of_ble_eq_true rfl, Nat.le_of_ble_eq_true rfl, cal_362⟩, gw_1363, Or.inl gw_1362⟩) <| 
  mA0 rfl <| 
  mA0 rfl <| 
  mA0 rfl <| 
  mA0 rfl <| 
  mA0 rfl <| 
  mA0 rfl <| 
  mA0 rfl <| 
  mA0 rfl <| 
  mA0 rfl <| 
  mA0 rfl <| 
  mA0 rfl <| 
  mA0 rfl <| 
  mA1 rfl (⟨⟨Nat.le_of_ble_eq_true rfl, Nat.le_of_ble_eq_true rfl, Nat.le_of_ble_eq_true rfl, cal_326⟩, rfl, gw_2104, gw_2105, gw_2106, _, rfl, rfl⟩) <| 
  mA0 rfl <| 
  mA0 rfl <| 
  mA1 rfl (⟨⟨Nat.le_of_ble_eq_true rfl, Nat.le_of_ble_eq_true rfl, Nat.le_of_ble_eq_true rfl, cal_209⟩, rfl, gw_1659, gw_1660, gw_1661, _, rfl, rfl⟩) <| 
  mA0 rfl <| 
  mA0 rfl <| 
  mA0 rfl <| 
  mA1 rfl (Or.inr ⟨by decide, rfl⟩) <| 
  mA0 rfl <| 
  mA0 rfl <| 
  mA0 rfl <| 
  mA0 rfl <| 
  mA0 rfl <| 
  mA0 rfl <| 
  mA0 rfl <| 
  mA0 rfl <| 
  mA0 rfl <| 
  mA0 rfl <| 
  mA1 rfl (Or.inr ⟨by decide, rfl⟩) <| 
  mA0 rfl <| 
  mA0 rfl <| 
  mA0 rfl <| 
  mA0 rfl <| 
  mA0 rfl <| 
  mA0 rfl <| 
  mA0 rfl <| 
  mA0 rfl <| 
  mA0 rfl <| 
  mA0 rfl <| 
  mA0 rfl <| 
  mA0 rfl <| 
  mA0 rfl <| 
  mA0 rfl <| 
  mA0 rfl <| 
  mA0 rfl <| 
  mA0 rfl <| 
  mA0 rfl <| 
  mA0 rfl <| 
  mA0 rfl <| 
  mA0 rfl <| 
  mA0 rfl <| 
  mA1 rfl (⟨⟨Nat.le_of_ble_eq_true rfl, Nat.le_of_ble_eq_true rfl, Nat.le_of_ble_eq_true rfl, cal_363⟩, gw_1397, Or.inl gw_1396⟩) <| 
  mA0 rfl <| 
  mA0 rfl <| 
  mA0 rfl <| 
  mA0 rfl <| 
  mA0 rfl <| 
  mA0 rfl <| 
  mA0 rfl <| 
  mA0 rfl <| 
  mA0 rfl <| 
  mA0 rfl <| 
  mA0 rfl <| 
  mA0 rfl <| 
  mA0 rfl <| 
  mA0 rfl <| 
  mA0 rfl <| 
  mA0 rfl <| 
  mA0 rfl <| 
  mA0 rfl <| 
  mA0 rfl <| 
  mA0 rfl <| 
  mA0 rfl <| 
  mA1 rfl (⟨⟨Nat.le_of_ble_eq_true rfl, Nat.le_of_ble_eq_true rfl, Nat.le_of_ble_eq_true rfl, cal_318⟩, rfl, gw_2072, gw_2073, gw_2074, _, rfl, rfl⟩) <| 
  mA0 rfl <| 
  mA0 rfl <| 
  mA1 rfl (⟨⟨Nat.le_of_ble_eq_true rfl, Nat.le_of_ble_eq_true rfl, Nat.le_of_ble_eq_true rfl, cal_209⟩, rfl, gw_1659, gw_1660, gw_1661, _, rfl, rfl⟩) <| 
  mA0 rfl <| 
  mA0 rfl <| 
  mA0 rfl <| 
  mA1 rfl (Or.inr ⟨by decide, rfl⟩) <| 
  mA0 rfl <| 
  mA0 rfl <| 
  mA0 rfl <| 
  mA0 rfl <| 
  mA0 rfl <| 
  mA0 rfl <| 
  mA0 rfl <| 
  mA0 rfl <| 
  mA0 rfl <| 
  mA0 rfl <| 
  mA1 rfl (Or.inr ⟨by decide, rfl⟩) <| 
  mA0 rfl <| 
  mA0 rfl <| 
  mA0 rfl <| 
  mA0 rfl <| 
  mA1 rfl (Or.inr ⟨by decide, rfl⟩) <| trivial
