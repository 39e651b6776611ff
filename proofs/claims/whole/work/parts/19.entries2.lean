/-! Each entry's facts. -/

theorem mc_250 : mAllP 250 mt_250 :=
  mA0 rfl <| 
  mA0 rfl <| 
  mA0 rfl <| 
  mA0 rfl <| 
  mA0 rfl <| 
  mA0 rfl <| 
  mA0 rfl <| 
  mA0 rfl <| 
  mA0 rfl <| 
  mA0 rfl <| 
  mA0 rfl <| 
  mA1 rfl (⟨_, rfl, Nat.le_of_ble_eq_true rfl, gw_1474, rfl⟩) <| 
  mA0 rfl <| 
  mA0 rfl <| 
  mA0 rfl <| 
  mA0 rfl <| 
  mA0 rfl <| 
  mA0 rfl <| 
  mA0 rfl <| 
  mA0 rfl <| 
  mA0 rfl <| 
  mA1 rfl (⟨_, rfl, Nat.le_of_ble_eq_true rfl, gw_1471, rfl⟩) <| 
  mA0 rfl <| 
  mA0 rfl <| 
  mA0 rfl <| 
  mA1 rfl (⟨_, rfl, Nat.le_of_ble_eq_true rfl, gw_1472, rfl⟩) <| 
  mA0 rfl <| 
  mA0 rfl <| 
  mA0 rfl <| 
  mA1 rfl (⟨_, rfl, Nat.le_of_ble_eq_true rfl, gw_1473, rfl⟩) <| 
  mA0 rfl <| 
  mA0 rfl <| 
  mA1 rfl (⟨⟨Nat.le_of_ble_eq_true rfl, Nat.le_of_ble_eq_true rfl, Nat.le_of_ble_eq_true rfl, cal_241⟩, rfl, gw_1730, gw_1732, gs_241, _, rfl, rfl⟩) <| 
  mA0 rfl <| 
  mA0 rfl <| 
  mA0 rfl <| 
  mA0 rfl <| 
  mA0 rfl <| 
  mA0 rfl <| 
  mA1 rfl (⟨_, rfl, Nat.le_of_ble_eq_true rfl, gw_1471, rfl⟩) <| 
  mA0 rfl <| 
  mA0 rfl <| 
  mA0 rfl <| 
  mA1 rfl (⟨_, rfl, Nat.le_of_ble_eq_true rfl, gw_1472, rfl⟩) <| 
  mA0 rfl <| 
  mA0 rfl <| 
  mA0 rfl <| 
  mA1 rfl (⟨_, rfl, Nat.le_of_ble_eq_true rfl, gw_1473, rfl⟩) <| 
  mA0 rfl <| 
  mA0 rfl <| 
  mA1 rfl (⟨⟨Nat.le_of_ble_eq_true rfl, Nat.le_of_ble_eq_true rfl, Nat.le_of_ble_eq_true rfl, cal_244⟩, rfl, gw_1841, gw_1843, gs_244, _, rfl, rfl⟩) <| 
  mA0 rfl <| 
  mA0 rfl <| 
  mA0 rfl <| 
  mA1 rfl (Or.inr ⟨by decide, rfl⟩) <| trivial

theorem mc_251 : mAllP 251 mt_251 :=
  mA0 rfl <| 
  mA1 rfl (⟨⟨Nat.le_of_ble_eq_true rfl, Nat.le_of_ble_eq_true rfl, Nat.le_of_ble_eq_true rfl, cal_219⟩, gw_1720, Or.inl gw_1719⟩) <| 
  mA0 rfl <| 
  mA0 rfl <| 
  mA1 rfl (⟨⟨Nat.le_of_ble_eq_true rfl, Nat.le_of_ble_eq_true rfl, Nat.le_of_ble_eq_true rfl, cal_219⟩, gw_1720, Or.inl gw_1719⟩) <| 
  mA0 rfl <| 
  mA0 rfl <| 
  mA0 rfl <| 
  mA0 rfl <| 
  mA0 rfl <| 
  mA0 rfl <| 
  mA0 rfl <| 
  mA0 rfl <| 
  mA0 rfl <| 
  mA0 rfl <| 
  mA0 rfl <| 
  mA0 rfl <| 
  mA0 rfl <| 
  mA0 rfl <| 
  mA0 rfl <| 
  mA0 rfl <| 
  mA0 rfl <| 
  mA0 rfl <| 
  mA0 rfl <| 
  mA1 rfl (⟨⟨Nat.le_of_ble_eq_true rfl, Nat.le_of_ble_eq_true rfl, Nat.le_of_ble_eq_true rfl, cal_249⟩, rfl, gw_1869, gw_1871, gs_249, _, rfl, rfl⟩) <| 
  mA0 rfl <| 
  mA0 rfl <| 
  mA1 rfl (⟨⟨Nat.le_of_ble_eq_true rfl, Nat.le_of_ble_eq_true rfl, Nat.le_of_ble_eq_true rfl, cal_250⟩, rfl, gw_1873, gw_1875, gs_250, _, rfl, rfl⟩) <| 
  mA0 rfl <| 
  mA0 rfl <| 
  mA0 rfl <| 
  mA0 rfl <| 
  mA0 rfl <| 
  mA0 rfl <| 
  mA0 rfl <| 
  mA0 rfl <| 
  mA0 rfl <| 
  mA0 rfl <| 
  mA0 rfl <| 
  mA0 rfl <| 
  mA0 rfl <| 
  mA0 rfl <| 
  mA0 rfl <| 
  mA0 rfl <| 
  mA1 rfl (⟨⟨Nat.le_of_ble_eq_true rfl, Nat.le_of_ble_eq_true rfl, Nat.le_of_ble_eq_true rfl, cal_210⟩, rfl, gw_1674, gw_1676, gs_210, _, rfl, rfl⟩) <| 
  mA0 rfl <| 
  mA0 rfl <| 
  mA1 rfl (Or.inl ⟨rfl, rfl⟩) <| 
  mA0 rfl <| 
  mA0 rfl <| 
  mA1 rfl (⟨⟨Nat.le_of_ble_eq_true rfl, Nat.le_of_ble_eq_true rfl, Nat.le_of_ble_eq_true rfl, cal_295⟩, rfl, gw_1754, gw_1756, gs_295, _, rfl, rfl⟩) <| 
  mA0 rfl <| 
  mA0 rfl <| 
  mA0 rfl <| 
  mA1 rfl (⟨⟨Nat.le_of_ble_eq_true rfl, Nat.le_of_ble_eq_true rfl, Nat.le_of_ble_eq_true rfl, cal_249⟩, rfl, gw_1869, gw_1871, gs_249, _, rfl, rfl⟩) <| 
  mA0 rfl <| 
  mA0 rfl <| 
  mA1 rfl (⟨⟨Nat.le_of_ble_eq_true rfl, Nat.le_of_ble_eq_true rfl, Nat.le_of_ble_eq_true rfl, cal_234⟩, rfl, gw_1444, gw_1446, gs_234, _, rfl, rfl⟩) <| 
  mA0 rfl <| 
  mA1 rfl (⟨_, rfl, Nat.le_of_ble_eq_true rfl, gw_1474, rfl⟩) <| 
  mA0 rfl <| 
  mA0 rfl <| 
  mA1 rfl (Or.inl ⟨rfl, rfl⟩) <| trivial

theorem mc_252 : mAllP 252 mt_252 :=
  mA0 rfl <| 
  mA0 rfl <| 
  mA1 rfl (⟨⟨Nat.le_of_ble_eq_true rfl, Nat.le_of_ble_eq_true rfl, Nat.le_of_ble_eq_true rfl, cal_219⟩, gw_1720, Or.inl gw_1719⟩) <| 
  mA0 rfl <| 
  mA0 rfl <| 
  mA0 rfl <| 
  mA0 rfl <| 
  mA1 rfl (⟨⟨Nat.le_of_ble_eq_true rfl, Nat.le_of_ble_eq_true rfl, Nat.le_of_ble_eq_true rfl, cal_211⟩, gw_1672, Or.inl gw_1671⟩) <| 
  mA0 rfl <| 
  mA0 rfl <| 
  mA0 rfl <| 
  mA0 rfl <| 
  mA1 rfl (⟨⟨Nat.le_of_ble_eq_true rfl, Nat.le_of_ble_eq_true rfl, Nat.le_of_ble_eq_true rfl, cal_210⟩, rfl, gw_1674, gw_1676, gs_210, _, rfl, rfl⟩) <| 
  mA0 rfl <| 
  mA0 rfl <| 
  mA1 rfl (Or.inr ⟨by decide, rfl⟩) <| 
  mA0 rfl <| 
  mA0 rfl <| 
  mA1 rfl (⟨⟨Nat.le_of_ble_eq_true rfl, Nat.le_of_ble_eq_true rfl, Nat.le_of_ble_eq_true rfl, cal_295⟩, rfl, gw_1754, gw_1756, gs_295, _, rfl, rfl⟩) <| 
  mA0 rfl <| 
  mA1 rfl (⟨_, rfl, Nat.le_of_ble_eq_true rfl, gw_1475, rfl⟩) <| 
  mA0 rfl <| 
  mA0 rfl <| 
  mA0 rfl <| 
  mA0 rfl <| 
  mA0 rfl <| 
  mA0 rfl <| 
  mA0 rfl <| 
  mA0 rfl <| 
  mA1 rfl (⟨_, rfl, Nat.le_of_ble_eq_true rfl, gw_1475, rfl⟩) <| 
  mA0 rfl <| 
  mA0 rfl <| 
  mA0 rfl <| 
  mA0 rfl <| 
  mA0 rfl <| 
  mA0 rfl <| 
  mA0 rfl <| 
  mA0 rfl <| 
  mA1 rfl (Or.inr ⟨by decide, rfl⟩) <| trivial

theorem mc_253 : mAllP 253 mt_253 :=
  mA0 rfl <| 
  mA0 rfl <| 
  mA1 rfl (⟨⟨Nat.le_of_ble_eq_true rfl, Nat.le_of_ble_eq_true rfl, Nat.le_of_ble_eq_true rfl, cal_219⟩, gw_1720, Or.inl gw_1719⟩) <| 
  mA0 rfl <| 
  mA0 rfl <| 
  mA0 rfl <| 
  mA0 rfl <| 
  mA1 rfl (⟨⟨Nat.le_of_ble_eq_true rfl, Nat.le_of_ble_eq_true rfl, Nat.le_of_ble_eq_true rfl, cal_210⟩, rfl, gw_1674, gw_1676, gs_210, _, rfl, rfl⟩) <| 
  mA0 rfl <| 
  mA0 rfl <| 
  mA1 rfl (⟨_, rfl, Nat.le_of_ble_eq_true rfl, gw_1474, rfl⟩) <| 
  mA0 rfl <| 
  mA0 rfl <| 
  mA0 rfl <| 
  mA0 rfl <| 
  mA1 rfl (Or.inl ⟨rfl, rfl⟩) <| trivial

theorem mc_254 : mAllP 254 mt_254 :=
  mA0 rfl <| 
  mA1 rfl (⟨⟨Nat.le_of_ble_eq_true rfl, Nat.le_of_ble_eq_true rfl, Nat.le_of_ble_eq_true rfl, cal_219⟩, gw_1720, Or.inl gw_1719⟩) <| 
  mA0 rfl <| 
  mA0 rfl <| 
  mA0 rfl <| 
  mA0 rfl <| 
  mA1 rfl (⟨_, rfl, Nat.le_of_ble_eq_true rfl, gw_1464, rfl⟩) <| 
  mA0 rfl <| 
  mA0 rfl <| 
  mA0 rfl <| 
  mA0 rfl <| 
  mA1 rfl (⟨⟨Nat.le_of_ble_eq_true rfl, Nat.le_of_ble_eq_true rfl, Nat.le_of_ble_eq_true rfl, cal_211⟩, gw_1672, Or.inl gw_1671⟩) <| 
  mA0 rfl <| 
  mA0 rfl <| 
  mA0 rfl <| 
  mA0 rfl <| 
  mA0 rfl <| 
  mA0 rfl <| 
  mA0 rfl <| 
  mA0 rfl <| 
  mA0 rfl <| 
  mA0 rfl <| 
  mA0 rfl <| 
  mA1 rfl (⟨⟨Nat.le_of_ble_eq_true rfl, Nat.le_of_ble_eq_true rfl, Nat.le_of_ble_eq_true rfl, cal_210⟩, rfl, gw_1674, gw_1676, gs_210, _, rfl, rfl⟩) <| 
  mA0 rfl <| 
  mA1 rfl (gw_1889) <| 
  mA0 rfl <| 
  mA1 rfl (⟨_, rfl, Nat.le_of_ble_eq_true rfl, gw_1463, rfl⟩) <| 
  mA0 rfl <| 
  mA0 rfl <| 
  mA0 rfl <| 
  mA0 rfl <| 
  mA0 rfl <| 
  mA0 rfl <| 
  mA0 rfl <| 
  mA0 rfl <| 
  mA1 rfl (⟨_, rfl, Nat.le_of_ble_eq_true rfl, gw_1462, rfl⟩) <| 
  mA0 rfl <| 
  mA0 rfl <| 
  mA0 rfl <| 
  mA0 rfl <| 
  mA0 rfl <| 
  mA0 rfl <| 
  mA0 rfl <| 
  mA0 rfl <| 
  mA0 rfl <| 
  mA1 rfl (Or.inl ⟨rfl, rfl⟩) <| trivial

theorem mc_255 : mAllP 255 mt_255 :=
  mA0 rfl <| 
  mA1 rfl (⟨_, rfl, Nat.le_of_ble_eq_true rfl, gw_1476, rfl⟩) <| 
  mA0 rfl <| 
  mA1 rfl (⟨_, rfl, Nat.le_of_ble_eq_true rfl, gw_1480, rfl⟩) <| 
  mA0 rfl <| 
  mA0 rfl <| 
  mA0 rfl <| 
  mA1 rfl (⟨_, rfl, Nat.le_of_ble_eq_true rfl, gw_1477, rfl⟩) <| 
  mA0 rfl <| 
  mA1 rfl (⟨_, rfl, Nat.le_of_ble_eq_true rfl, gw_1480, rfl⟩) <| 
  mA0 rfl <| 
  mA0 rfl <| 
  mA0 rfl <| 
  mA1 rfl (⟨_, rfl, Nat.le_of_ble_eq_true rfl, gw_1478, rfl⟩) <| 
  mA0 rfl <| 
  mA1 rfl (⟨_, rfl, Nat.le_of_ble_eq_true rfl, gw_1480, rfl⟩) <| 
  mA0 rfl <| 
  mA0 rfl <| 
  mA0 rfl <| 
  mA1 rfl (⟨_, rfl, Nat.le_of_ble_eq_true rfl, gw_1479, rfl⟩) <| 
  mA0 rfl <| 
  mA1 rfl (⟨_, rfl, Nat.le_of_ble_eq_true rfl, gw_1480, rfl⟩) <| 
  mA0 rfl <| 
  mA0 rfl <| 
  mA0 rfl <| 
  mA0 rfl <| 
  mA1 rfl (⟨_, rfl, Nat.le_of_ble_eq_true rfl, gw_1480, rfl⟩) <| 
  mA0 rfl <| 
  mA0 rfl <| 
  mA1 rfl (⟨_, rfl, Nat.le_of_ble_eq_true rfl, gw_1480, rfl, Or.inl rfl⟩) <| 
  mA1 rfl (rfl) <| trivial

theorem mc_256 : mAllP 256 mt_256 :=
  mA0 rfl <| 
  mA0 rfl <| 
  mA0 rfl <| 
  mA0 rfl <| 
  mA0 rfl <| 
  mA0 rfl <| 
  mA1 rfl (⟨⟨Nat.le_of_ble_eq_true rfl, Nat.le_of_ble_eq_true rfl, Nat.le_of_ble_eq_true rfl, cal_232⟩, rfl, gw_1747, gw_1749, gs_232, _, rfl, rfl⟩) <| 
  mA0 rfl <| 
  mA0 rfl <| 
  mA0 rfl <| 
  mA0 rfl <| 
  mA1 rfl (⟨_, rfl, Nat.le_of_ble_eq_true rfl, gw_1465, rfl⟩) <| 
  mA0 rfl <| 
  mA0 rfl <| 
  mA0 rfl <| 
  mA1 rfl (⟨_, rfl, Nat.le_of_ble_eq_true rfl, gw_1466, rfl⟩) <| 
  mA0 rfl <| 
  mA0 rfl <| 
  mA0 rfl <| 
  mA1 rfl (⟨_, rfl, Nat.le_of_ble_eq_true rfl, gw_1467, rfl⟩) <| 
  mA0 rfl <| 
  mA0 rfl <| 
  mA0 rfl <| 
  mA1 rfl (⟨⟨Nat.le_of_ble_eq_true rfl, Nat.le_of_ble_eq_true rfl, Nat.le_of_ble_eq_true rfl, cal_255⟩, rfl, gw_1797, gw_1799, gs_255, _, rfl, rfl⟩) <| 
  mA1 rfl (rfl) <| trivial

theorem mc_257 : mAllP 257 mt_257 :=
  mA0 rfl <| 
  mA0 rfl <| 
  mA0 rfl <| 
  mA1 rfl (⟨⟨Nat.le_of_ble_eq_true rfl, Nat.le_of_ble_eq_true rfl, Nat.le_of_ble_eq_true rfl, cal_232⟩, rfl, gw_1747, gw_1749, gs_232, _, rfl, rfl⟩) <| 
  mA0 rfl <| 
  mA0 rfl <| 
  mA0 rfl <| 
  mA0 rfl <| 
  mA0 rfl <| 
  mA1 rfl (⟨⟨Nat.le_of_ble_eq_true rfl, Nat.le_of_ble_eq_true rfl, Nat.le_of_ble_eq_true rfl, cal_233⟩, rfl, gw_1809, gw_1811, gs_233, _, rfl, rfl⟩) <| 
  mA0 rfl <| 
  mA0 rfl <| 
  mA0 rfl <| 
  mA0 rfl <| 
  mA0 rfl <| 
  mA1 rfl (Or.inr ⟨by decide, rfl⟩) <| trivial

theorem mc_258 : mAllP 258 mt_258 :=
  mA0 rfl <| 
  mA0 rfl <| 
  mA0 rfl <| 
  mA0 rfl <| 
  mA1 rfl (⟨_, rfl, Nat.le_of_ble_eq_true rfl, gw_1461, rfl⟩) <| 
  mA0 rfl <| 
  mA0 rfl <| 
  mA1 rfl (⟨_, rfl, Nat.le_of_ble_eq_true rfl, gw_1460, rfl⟩) <| 
  mA0 rfl <| 
  mA0 rfl <| 
  mA1 rfl (⟨⟨Nat.le_of_ble_eq_true rfl, Nat.le_of_ble_eq_true rfl, Nat.le_of_ble_eq_true rfl, cal_214⟩, gw_1791, Or.inl gw_1790⟩) <| 
  mA0 rfl <| 
  mA0 rfl <| 
  mA1 rfl (⟨_, rfl, Nat.le_of_ble_eq_true rfl, gw_1481, rfl⟩) <| 
  mA0 rfl <| 
  mA0 rfl <| 
  mA1 rfl (⟨_, rfl, Nat.le_of_ble_eq_true rfl, gw_1482, rfl⟩) <| 
  mA0 rfl <| 
  mA0 rfl <| 
  mA0 rfl <| 
  mA0 rfl <| 
  mA0 rfl <| 
  mA0 rfl <| 
  mA0 rfl <| 
  mA0 rfl <| 
  mA0 rfl <| 
  mA0 rfl <| 
  mA0 rfl <| 
  mA1 rfl (⟨_, rfl, Nat.le_of_ble_eq_true rfl, gw_1460, rfl⟩) <| 
  mA0 rfl <| 
  mA0 rfl <| 
  mA0 rfl <| 
  mA0 rfl <| 
  mA0 rfl <| 
  mA0 rfl <| 
  mA0 rfl <| 
  mA0 rfl <| 
  mA1 rfl (⟨_, rfl, Nat.le_of_ble_eq_true rfl, gw_1465, rfl⟩) <| 
  mA0 rfl <| 
  mA0 rfl <| 
  mA0 rfl <| 
  mA0 rfl <| 
  mA0 rfl <| 
  mA0 rfl <| 
  mA1 rfl (⟨⟨Nat.le_of_ble_eq_true rfl, Nat.le_of_ble_eq_true rfl, Nat.le_of_ble_eq_true rfl, cal_232⟩, rfl, gw_1747, gw_1749, gs_232, _, rfl, rfl⟩) <| 
  mA0 rfl <| 
  mA0 rfl <| 
  mA0 rfl <| 
  mA0 rfl <| 
  mA0 rfl <| 
  mA1 rfl (⟨⟨Nat.le_of_ble_eq_true rfl, Nat.le_of_ble_eq_true rfl, Nat.le_of_ble_eq_true rfl, cal_255⟩, rfl, gw_1797, gw_1799, gs_255, _, rfl, rfl⟩) <| 
  mA0 rfl <| 
  mA0 rfl <| 
  mA0 rfl <| 
  mA0 rfl <| 
  mA0 rfl <| 
  mA0 rfl <| 
  mA0 rfl <| 
  mA1 rfl (⟨⟨Nat.le_of_ble_eq_true rfl, Nat.le_of_ble_eq_true rfl, Nat.le_of_ble_eq_true rfl, cal_255⟩, rfl, gw_1797, gw_1799, gs_255, _, rfl, rfl⟩) <| 
  mA0 rfl <| 
  mA0 rfl <| 
  mA0 rfl <| 
  mA0 rfl <| 
  mA0 rfl <| 
  mA0 rfl <| 
  mA0 rfl <| 
  mA1 rfl (⟨_, rfl, Nat.le_of_ble_eq_true rfl, gw_1460, rfl⟩) <| 
  mA0 rfl <| 
  mA0 rfl <| 
  mA0 rfl <| 
  mA0 rfl <| 
  mA0 rfl <| 
  mA0 rfl <| 
  mA0 rfl <| 
  mA0 rfl <| 
  mA0 rfl <| 
  mA1 rfl (⟨⟨Nat.le_of_ble_eq_true rfl, Nat.le_of_ble_eq_true rfl, Nat.le_of_ble_eq_true rfl, cal_255⟩, rfl, gw_1797, gw_1799, gs_255, _, rfl, rfl⟩) <| 
  mA0 rfl <| 
  mA0 rfl <| 
  mA0 rfl <| 
  mA0 rfl <| 
  mA0 rfl <| 
  mA1 rfl (Or.inl ⟨rfl, rfl⟩) <| trivial

theorem mc_259_0 : mAllP 259 mt_259_0 :=
  mA0 rfl <| 
  mA1 rfl (⟨_, rfl, Nat.le_of_ble_eq_true rfl, gw_1460, rfl⟩) <| 
  mA0 rfl <| 
  mA0 rfl <| 
  mA0 rfl <| 
  mA0 rfl <| 
  mA0 rfl <| 
  mA0 rfl <| 
  mA0 rfl <| 
  mA0 rfl <| 
  mA0 rfl <| 
  mA0 rfl <| 
  mA0 rfl <| 
  mA0 rfl <| 
  mA0 rfl <| 
  mA0 rfl <| 
  mA0 rfl <| 
  mA1 rfl (⟨_, rfl, Nat.le_of_ble_eq_true rfl, gw_1461, rfl⟩) <| 
  mA0 rfl <| 
  mA0 rfl <| 
  mA0 rfl <| 
  mA0 rfl <| 
  mA0 rfl <| 
  mA0 rfl <| 
  mA0 rfl <| 
  mA0 rfl <| 
  mA0 rfl <| 
  mA0 rfl <| 
  mA1 rfl (⟨_, rfl, Nat.le_of_ble_eq_true rfl, gw_1460, rfl⟩) <| 
  mA0 rfl <| 
  mA0 rfl <| 
  mA0 rfl <| 
  mA0 rfl <| 
  mA0 rfl <| 
  mA0 rfl <| 
  mA0 rfl <| 
  mA0 rfl <| 
  mA0 rfl <| 
  mA1 rfl (⟨⟨Nat.le_of_ble_eq_true rfl, Nat.le_of_ble_eq_true rfl, Nat.le_of_ble_eq_true rfl, cal_257⟩, rfl, gw_1805, gw_1807, gs_257, _, rfl, rfl⟩) <| 
  mA0 rfl <| 
  mA0 rfl <| 
  mA0 rfl <| 
  mA0 rfl <| 
  mA0 rfl <| 
  mA0 rfl <| 
  mA0 rfl <| 
  mA0 rfl <| 
  mA0 rfl <| 
  mA0 rfl <| 
  mA0 rfl <| 
  mA0 rfl <| 
  mA0 rfl <| 
  mA0 rfl <| 
  mA0 rfl <| 
  mA0 rfl <| 
  mA0 rfl <| 
  mA0 rfl <| 
  mA0 rfl <| 
  mA1 rfl (⟨_, rfl, Nat.le_of_ble_eq_true rfl, gw_1481, rfl⟩) <| 
  mA0 rfl <| 
  mA0 rfl <| 
  mA1 rfl (⟨_, rfl, Nat.le_of_ble_eq_true rfl, gw_1482, rfl⟩) <| 
  mA0 rfl <| 
  mA0 rfl <| 
  mA0 rfl <| 
  mA0 rfl <| 
  mA0 rfl <| 
  mA0 rfl <| 
  mA0 rfl <| 
  mA0 rfl <| 
  mA0 rfl <| 
  mA0 rfl <| 
  mA0 rfl <| 
  mA1 rfl (⟨_, rfl, Nat.le_of_ble_eq_true rfl, gw_1461, rfl⟩) <| 
  mA0 rfl <| 
  mA0 rfl <| 
  mA1 rfl (⟨_, rfl, Nat.le_of_ble_eq_true rfl, gw_1460, rfl⟩) <| 
  mA0 rfl <| 
  mA0 rfl <| 
  mA1 rfl (⟨⟨Nat.le_of_ble_eq_true rfl, Nat.le_of_ble_eq_true rfl, Nat.le_of_ble_eq_true rfl, cal_212⟩, gw_1686, Or.inl gw_1685⟩) <| 
  mA0 rfl <| 
  mA0 rfl <| 
  mA0 rfl <| 
  mA0 rfl <| 
  mA0 rfl <| 
  mA1 rfl (⟨_, rfl, Nat.le_of_ble_eq_true rfl, gw_1460, rfl⟩) <| 
  mA0 rfl <| 
  mA0 rfl <| 
  mA1 rfl (⟨⟨Nat.le_of_ble_eq_true rfl, Nat.le_of_ble_eq_true rfl, Nat.le_of_ble_eq_true rfl, cal_215⟩, gw_1705, Or.inl gw_1704⟩) <| 
  mA0 rfl <| 
  mA0 rfl <| 
  mA0 rfl <| 
  mA0 rfl <| 
  mA0 rfl <| 
  mA0 rfl <| 
  mA0 rfl <| 
  mA0 rfl <| 
  mA1 rfl (⟨_, rfl, Nat.le_of_ble_eq_true rfl, gw_1460, rfl⟩) <| 
  mA0 rfl <| 
  mA0 rfl <| 
  mA0 rfl <| 
  mA0 rfl <| 
  mA0 rfl <| 
  mA1 rfl (⟨⟨Nat.le_of_ble_eq_true rfl, Nat.le_of_ble_eq_true rfl, Nat.le_of_ble_eq_true rfl, cal_257⟩, rfl, gw_1805, gw_1807, gs_257, _, rfl, rfl⟩) <| 
  mA0 rfl <| 
  mA0 rfl <| 
  mA0 rfl <| 
  mA0 rfl <| 
  mA0 rfl <| 
  mA0 rfl <| 
  mA0 rfl <| 
  mA0 rfl <| 
  mA0 rfl <| 
  mA0 rfl <| 
  mA0 rfl <| 
  mA1 rfl (⟨_, rfl, Nat.le_of_ble_eq_true rfl, gw_1460, rfl⟩) <| 
  mA0 rfl <| 
  mA0 rfl <| 
  mA0 rfl <| 
  mA0 rfl <| trivial

theorem mc_259_1 : mAllP 259 mt_259_1 :=
  mA0 rfl <| 
  mA0 rfl <| 
  mA0 rfl <| 
  mA0 rfl <| 
  mA0 rfl <| 
  mA1 rfl (⟨_, rfl, Nat.le_of_ble_eq_true rfl, gw_1481, rfl⟩) <| 
  mA0 rfl <| 
  mA0 rfl <| 
  mA0 rfl <| 
  mA0 rfl <| 
  mA1 rfl (⟨_, rfl, Nat.le_of_ble_eq_true rfl, gw_1482, rfl⟩) <| 
  mA0 rfl <| 
  mA0 rfl <| 
  mA1 rfl (⟨_, rfl, Nat.le_of_ble_eq_true rfl, gw_1481, rfl⟩) <| 
  mA0 rfl <| 
  mA0 rfl <| 
  mA0 rfl <| 
  mA0 rfl <| 
  mA0 rfl <| 
  mA0 rfl <| 
  mA1 rfl (⟨_, rfl, Nat.le_of_ble_eq_true rfl, gw_1460, rfl⟩) <| 
  mA0 rfl <| 
  mA0 rfl <| 
  mA1 rfl (⟨⟨Nat.le_of_ble_eq_true rfl, Nat.le_of_ble_eq_true rfl, Nat.le_of_ble_eq_true rfl, cal_215⟩, gw_1705, Or.inl gw_1704⟩) <| 
  mA0 rfl <| 
  mA0 rfl <| 
  mA0 rfl <| 
  mA1 rfl (⟨_, rfl, Nat.le_of_ble_eq_true rfl, gw_1460, rfl⟩) <| 
  mA0 rfl <| 
  mA0 rfl <| 
  mA1 rfl (⟨⟨Nat.le_of_ble_eq_true rfl, Nat.le_of_ble_eq_true rfl, Nat.le_of_ble_eq_true rfl, cal_215⟩, gw_1705, Or.inl gw_1704⟩) <| 
  mA0 rfl <| 
  mA0 rfl <| 
  mA0 rfl <| 
  mA0 rfl <| 
  mA0 rfl <| 
  mA0 rfl <| 
  mA0 rfl <| 
  mA0 rfl <| 
  mA1 rfl (⟨⟨Nat.le_of_ble_eq_true rfl, Nat.le_of_ble_eq_true rfl, Nat.le_of_ble_eq_true rfl, cal_233⟩, rfl, gw_1809, gw_1811, gs_233, _, rfl, rfl⟩) <| 
  mA0 rfl <| 
  mA0 rfl <| 
  mA0 rfl <| 
  mA0 rfl <| 
  mA0 rfl <| 
  mA0 rfl <| 
  mA0 rfl <| 
  mA0 rfl <| 
  mA0 rfl <| 
  mA0 rfl <| 
  mA0 rfl <| 
  mA0 rfl <| 
  mA0 rfl <| 
  mA0 rfl <| 
  mA0 rfl <| 
  mA0 rfl <| 
  mA0 rfl <| 
  mA0 rfl <| 
  mA0 rfl <| 
  mA0 rfl <| 
  mA0 rfl <| 
  mA0 rfl <| 
  mA1 rfl (⟨⟨Nat.le_of_ble_eq_true rfl, Nat.le_of_ble_eq_true rfl, Nat.le_of_ble_eq_true rfl, cal_256⟩, rfl, gw_1813, gw_1815, gs_256, _, rfl, rfl⟩) <| 
  mA0 rfl <| 
  mA0 rfl <| 
  mA0 rfl <| 
  mA0 rfl <| 
  mA0 rfl <| 
  mA0 rfl <| 
  mA0 rfl <| 
  mA1 rfl (⟨_, rfl, Nat.le_of_ble_eq_true rfl, gw_1469, rfl⟩) <| 
  mA0 rfl <| 
  mA0 rfl <| 
  mA0 rfl <| 
  mA0 rfl <| 
  mA0 rfl <| 
  mA0 rfl <| 
  mA1 rfl (⟨⟨Nat.le_of_ble_eq_true rfl, Nat.le_of_ble_eq_true rfl, Nat.le_of_ble_eq_true rfl, cal_230⟩, gw_1741, Or.inl gw_1740⟩) <| 
  mA0 rfl <| 
  mA0 rfl <| 
  mA0 rfl <| 
  mA0 rfl <| 
  mA1 rfl (⟨_, rfl, Nat.le_of_ble_eq_true rfl, gw_1469, rfl⟩) <| 
  mA0 rfl <| 
  mA0 rfl <| 
  mA0 rfl <| 
  mA0 rfl <| 
  mA0 rfl <| 
  mA0 rfl <| 
  mA0 rfl <| 
  mA1 rfl (⟨⟨Nat.le_of_ble_eq_true rfl, Nat.le_of_ble_eq_true rfl, Nat.le_of_ble_eq_true rfl, cal_231⟩, gw_1738, Or.inl gw_1737⟩) <| 
  mA0 rfl <| 
  mA0 rfl <| 
  mA0 rfl <| 
  mA1 rfl (⟨⟨Nat.le_of_ble_eq_true rfl, Nat.le_of_ble_eq_true rfl, Nat.le_of_ble_eq_true rfl, cal_256⟩, rfl, gw_1813, gw_1815, gs_256, _, rfl, rfl⟩) <| 
  mA0 rfl <| 
  mA0 rfl <| 
  mA0 rfl <| 
  mA1 rfl (Or.inl ⟨rfl, rfl⟩) <| trivial

theorem mc_260_0 : mAllP 260 mt_260_0 :=
  mA0 rfl <| 
  mA0 rfl <| 
  mA1 rfl (⟨_, rfl, Nat.le_of_ble_eq_true rfl, gw_1480, rfl, Or.inl rfl⟩) <| 
  mA0 rfl <| 
  mA0 rfl <| 
  mA1 rfl (⟨_, rfl, Nat.le_of_ble_eq_true rfl, gw_1482, rfl, Or.inl rfl⟩) <| 
  mA0 rfl <| 
  mA0 rfl <| 
  mA0 rfl <| 
  mA0 rfl <| 
  mA1 rfl (⟨_, rfl, Nat.le_of_ble_eq_true rfl, gw_1461, rfl⟩) <| 
  mA0 rfl <| 
  mA0 rfl <| 
  mA1 rfl (⟨_, rfl, Nat.le_of_ble_eq_true rfl, gw_1481, rfl⟩) <| 
  mA0 rfl <| 
  mA0 rfl <| 
  mA0 rfl <| 
  mA0 rfl <| 
  mA0 rfl <| 
  mA0 rfl <| 
  mA0 rfl <| 
  mA0 rfl <| 
  mA0 rfl <| 
  mA0 rfl <| 
  mA0 rfl <| 
  mA1 rfl (⟨_, rfl, Nat.le_of_ble_eq_true rfl, gw_1461, rfl⟩) <| 
  mA0 rfl <| 
  mA0 rfl <| 
  mA1 rfl (⟨_, rfl, Nat.le_of_ble_eq_true rfl, gw_1481, rfl⟩) <| 
  mA0 rfl <| 
  mA0 rfl <| 
  mA0 rfl <| 
  mA0 rfl <| 
  mA0 rfl <| 
  mA0 rfl <| 
  mA0 rfl <| 
  mA1 rfl (⟨_, rfl, Nat.le_of_ble_eq_true rfl, gw_1475, rfl⟩) <| 
  mA0 rfl <| 
  mA0 rfl <| 
  mA0 rfl <| 
  mA0 rfl <| 
  mA0 rfl <| 
  mA0 rfl <| 
  mA0 rfl <| 
  mA0 rfl <| 
  mA1 rfl (⟨_, rfl, Nat.le_of_ble_eq_true rfl, gw_1460, rfl⟩) <| 
  mA0 rfl <| 
  mA0 rfl <| 
  mA1 rfl (⟨⟨Nat.le_of_ble_eq_true rfl, Nat.le_of_ble_eq_true rfl, Nat.le_of_ble_eq_true rfl, cal_214⟩, gw_1791, Or.inl gw_1790⟩) <| 
  mA0 rfl <| 
  mA0 rfl <| 
  mA0 rfl <| 
  mA0 rfl <| 
  mA0 rfl <| 
  mA0 rfl <| 
  mA0 rfl <| 
  mA1 rfl (⟨⟨Nat.le_of_ble_eq_true rfl, Nat.le_of_ble_eq_true rfl, Nat.le_of_ble_eq_true rfl, cal_258⟩, rfl, gw_1793, gw_1795, gs_258, _, rfl, rfl⟩) <| 
  mA0 rfl <| 
  mA0 rfl <| 
  mA0 rfl <| 
  mA0 rfl <| 
  mA1 rfl (⟨_, rfl, Nat.le_of_ble_eq_true rfl, gw_1460, rfl⟩) <| 
  mA0 rfl <| 
  mA0 rfl <| 
  mA1 rfl (⟨⟨Nat.le_of_ble_eq_true rfl, Nat.le_of_ble_eq_true rfl, Nat.le_of_ble_eq_true rfl, cal_212⟩, gw_1686, Or.inl gw_1685⟩) <| 
  mA0 rfl <| 
  mA0 rfl <| 
  mA0 rfl <| 
  mA0 rfl <| 
  mA0 rfl <| 
  mA1 rfl (⟨_, rfl, Nat.le_of_ble_eq_true rfl, gw_1460, rfl⟩) <| 
  mA0 rfl <| 
  mA0 rfl <| 
  mA0 rfl <| 
  mA0 rfl <| 
  mA0 rfl <| 
  mA0 rfl <| 
  mA0 rfl <| 
  mA0 rfl <| 
  mA0 rfl <| 
  mA0 rfl <| 
  mA0 rfl <| 
  mA1 rfl (⟨⟨Nat.le_of_ble_eq_true rfl, Nat.le_of_ble_eq_true rfl, Nat.le_of_ble_eq_true rfl, cal_255⟩, rfl, gw_1797, gw_1799, gs_255, _, rfl, rfl⟩) <| 
  mA0 rfl <| 
  mA1 rfl (⟨_, rfl, Nat.le_of_ble_eq_true rfl, gw_1481, rfl⟩) <| 
  mA0 rfl <| 
  mA0 rfl <| 
  mA1 rfl (⟨_, rfl, Nat.le_of_ble_eq_true rfl, gw_1482, rfl⟩) <| 
  mA0 rfl <| 
  mA0 rfl <| 
  mA0 rfl <| 
  mA0 rfl <| 
  mA1 rfl (⟨_, rfl, Nat.le_of_ble_eq_true rfl, gw_1460, rfl⟩) <| 
  mA0 rfl <| 
  mA0 rfl <| 
  mA0 rfl <| 
  mA0 rfl <| 
  mA0 rfl <| 
  mA1 rfl (⟨_, rfl, Nat.le_of_ble_eq_true rfl, gw_1460, rfl⟩) <| 
  mA0 rfl <| 
  mA0 rfl <| 
  mA0 rfl <| 
  mA0 rfl <| 
  mA0 rfl <| 
  mA0 rfl <| 
  mA0 rfl <| 
  mA0 rfl <| 
  mA0 rfl <| 
  mA0 rfl <| 
  mA0 rfl <| 
  mA0 rfl <| 
  mA1 rfl (⟨⟨Nat.le_of_ble_eq_true rfl, Nat.le_of_ble_eq_true rfl, Nat.le_of_ble_eq_true rfl, cal_259⟩, rfl, gw_1801, gw_1803, gs_259, _, rfl, rfl⟩) <| 
  mA0 rfl <| 
  mA0 rfl <| 
  mA0 rfl <| 
  mA0 rfl <| 
  mA1 rfl (⟨_, rfl, Nat.le_of_ble_eq_true rfl, gw_1482, rfl⟩) <| 
  mA0 rfl <| 
  mA0 rfl <| 
  mA1 rfl (⟨_, rfl, Nat.le_of_ble_eq_true rfl, gw_1482, rfl, Or.inl rfl⟩) <| trivial

theorem mc_260_1 : mAllP 260 mt_260_1 :=
  mA0 rfl <| 
  mA1 rfl (rfl) <| trivial

theorem mc_261 : mAllP 261 mt_261 :=
  mA0 rfl <| 
  mA1 rfl (⟨_, rfl, Nat.le_of_ble_eq_true rfl, gw_1483, rfl⟩) <| 
  mA0 rfl <| 
  mA1 rfl (⟨_, rfl, Nat.le_of_ble_eq_true rfl, gw_1484, rfl⟩) <| 
  mA0 rfl <| 
  mA0 rfl <| 
  mA0 rfl <| 
  mA0 rfl <| 
  mA1 rfl (⟨_, rfl, Nat.le_of_ble_eq_true rfl, gw_1484, rfl⟩) <| 
  mA0 rfl <| 
  mA0 rfl <| 
  mA1 rfl (⟨_, rfl, Nat.le_of_ble_eq_true rfl, gw_1484, rfl, Or.inl rfl⟩) <| 
  mA1 rfl (rfl) <| trivial

theorem mc_262 : mAllP 262 mt_262 :=
  mA0 rfl <| 
  mA0 rfl <| 
  mA1 rfl (⟨_, rfl, Nat.le_of_ble_eq_true rfl, gw_1484, rfl, Or.inl rfl⟩) <| 
  mA0 rfl <| 
  mA1 rfl (⟨_, rfl, Nat.le_of_ble_eq_true rfl, gw_1475, rfl⟩) <| 
  mA0 rfl <| 
  mA0 rfl <| 
  mA0 rfl <| 
  mA0 rfl <| 
  mA0 rfl <| 
  mA0 rfl <| 
  mA0 rfl <| 
  mA0 rfl <| 
  mA0 rfl <| 
  mA0 rfl <| 
  mA0 rfl <| 
  mA1 rfl (⟨_, rfl, Nat.le_of_ble_eq_true rfl, gw_1480, rfl⟩) <| 
  mA0 rfl <| 
  mA0 rfl <| 
  mA0 rfl <| 
  mA0 rfl <| 
  mA0 rfl <| 
  mA1 rfl (⟨_, rfl, Nat.le_of_ble_eq_true rfl, gw_1475, rfl⟩) <| 
  mA0 rfl <| 
  mA0 rfl <| 
  mA0 rfl <| 
  mA0 rfl <| 
  mA0 rfl <| 
  mA0 rfl <| 
  mA0 rfl <| 
  mA0 rfl <| 
  mA1 rfl (⟨_, rfl, Nat.le_of_ble_eq_true rfl, gw_1480, rfl⟩) <| 
  mA0 rfl <| 
  mA0 rfl <| 
  mA0 rfl <| 
  mA0 rfl <| 
  mA0 rfl <| 
  mA0 rfl <| 
  mA0 rfl <| 
  mA0 rfl <| 
  mA0 rfl <| 
  mA0 rfl <| 
  mA1 rfl (⟨_, rfl, Nat.le_of_ble_eq_true rfl, gw_1479, rfl⟩) <| 
  mA0 rfl <| 
  mA0 rfl <| 
  mA0 rfl <| 
  mA0 rfl <| 
  mA0 rfl <| 
  mA0 rfl <| 
  mA0 rfl <| 
  mA0 rfl <| 
  mA0 rfl <| 
  mA0 rfl <| 
  mA0 rfl <| 
  mA0 rfl <| 
  mA0 rfl <| 
  mA1 rfl (⟨_, rfl, Nat.le_of_ble_eq_true rfl, gw_1479, rfl⟩) <| 
  mA0 rfl <| 
  mA0 rfl <| 
  mA0 rfl <| 
  mA0 rfl <| 
  mA0 rfl <| 
  mA0 rfl <| 
  mA1 rfl (⟨_, rfl, Nat.le_of_ble_eq_true rfl, gw_1479, rfl⟩) <| 
  mA0 rfl <| 
  mA0 rfl <| 
  mA0 rfl <| 
  mA0 rfl <| 
  mA0 rfl <| 
  mA1 rfl (⟨_, rfl, Nat.le_of_ble_eq_true rfl, gw_1476, rfl⟩) <| 
  mA0 rfl <| 
  mA0 rfl <| 
  mA0 rfl <| 
  mA0 rfl <| 
  mA1 rfl (⟨⟨Nat.le_of_ble_eq_true rfl, Nat.le_of_ble_eq_true rfl, Nat.le_of_ble_eq_true rfl, cal_261⟩, rfl, gw_1821, gw_1823, gs_261, _, rfl, rfl⟩) <| 
  mA0 rfl <| 
  mA0 rfl <| 
  mA0 rfl <| 
  mA0 rfl <| 
  mA0 rfl <| 
  mA0 rfl <| 
  mA0 rfl <| 
  mA1 rfl (⟨_, rfl, Nat.le_of_ble_eq_true rfl, gw_1476, rfl⟩) <| 
  mA0 rfl <| 
  mA0 rfl <| 
  mA0 rfl <| 
  mA0 rfl <| 
  mA0 rfl <| 
  mA1 rfl (⟨_, rfl, Nat.le_of_ble_eq_true rfl, gw_1476, rfl⟩) <| 
  mA0 rfl <| 
  mA0 rfl <| 
  mA1 rfl (⟨⟨Nat.le_of_ble_eq_true rfl, Nat.le_of_ble_eq_true rfl, Nat.le_of_ble_eq_true rfl, cal_261⟩, rfl, gw_1821, gw_1823, gs_261, _, rfl, rfl⟩) <| 
  mA0 rfl <| 
  mA0 rfl <| 
  mA0 rfl <| 
  mA0 rfl <| 
  mA0 rfl <| 
  mA0 rfl <| 
  mA0 rfl <| 
  mA0 rfl <| 
  mA1 rfl (⟨_, rfl, Nat.le_of_ble_eq_true rfl, gw_1477, rfl⟩) <| 
  mA0 rfl <| 
  mA0 rfl <| 
  mA1 rfl (⟨⟨Nat.le_of_ble_eq_true rfl, Nat.le_of_ble_eq_true rfl, Nat.le_of_ble_eq_true rfl, cal_261⟩, rfl, gw_1821, gw_1823, gs_261, _, rfl, rfl⟩) <| 
  mA0 rfl <| 
  mA0 rfl <| 
  mA0 rfl <| 
  mA0 rfl <| 
  mA0 rfl <| 
  mA0 rfl <| 
  mA0 rfl <| 
  mA0 rfl <| 
  mA1 rfl (⟨_, rfl, Nat.le_of_ble_eq_true rfl, gw_1478, rfl⟩) <| 
  mA0 rfl <| 
  mA0 rfl <| 
  mA1 rfl (⟨⟨Nat.le_of_ble_eq_true rfl, Nat.le_of_ble_eq_true rfl, Nat.le_of_ble_eq_true rfl, cal_261⟩, rfl, gw_1821, gw_1823, gs_261, _, rfl, rfl⟩) <| 
  mA0 rfl <| 
  mA0 rfl <| 
  mA1 rfl (rfl) <| trivial

theorem mc_263 : mAllP 263 mt_263 :=
  mA0 rfl <| 
  mA1 rfl (⟨_, rfl, Nat.le_of_ble_eq_true rfl, gw_1485, rfl⟩) <| 
  mA0 rfl <| 
  mA1 rfl (⟨_, rfl, Nat.le_of_ble_eq_true rfl, gw_1486, rfl⟩) <| 
  mA0 rfl <| 
  mA0 rfl <| 
  mA0 rfl <| 
  mA0 rfl <| 
  mA1 rfl (⟨_, rfl, Nat.le_of_ble_eq_true rfl, gw_1486, rfl⟩) <| 
  mA0 rfl <| 
  mA0 rfl <| 
  mA1 rfl (⟨_, rfl, Nat.le_of_ble_eq_true rfl, gw_1486, rfl, Or.inl rfl⟩) <| 
  mA1 rfl (rfl) <| trivial

theorem mc_264 : mAllP 264 mt_264 :=
  mA0 rfl <| 
  mA0 rfl <| 
  mA0 rfl <| 
  mA0 rfl <| 
  mA0 rfl <| 
  mA0 rfl <| 
  mA1 rfl (⟨_, rfl, Nat.le_of_ble_eq_true rfl, gw_1484, rfl⟩) <| 
  mA0 rfl <| 
  mA0 rfl <| 
  mA0 rfl <| 
  mA1 rfl (⟨_, rfl, Nat.le_of_ble_eq_true rfl, gw_1484, rfl⟩) <| 
  mA0 rfl <| 
  mA0 rfl <| 
  mA0 rfl <| 
  mA0 rfl <| 
  mA0 rfl <| 
  mA0 rfl <| 
  mA0 rfl <| 
  mA0 rfl <| 
  mA1 rfl (⟨_, rfl, Nat.le_of_ble_eq_true rfl, gw_1483, rfl⟩) <| 
  mA0 rfl <| 
  mA0 rfl <| 
  mA0 rfl <| 
  mA0 rfl <| 
  mA0 rfl <| 
  mA0 rfl <| 
  mA0 rfl <| 
  mA0 rfl <| 
  mA0 rfl <| 
  mA0 rfl <| 
  mA0 rfl <| 
  mA1 rfl (⟨⟨Nat.le_of_ble_eq_true rfl, Nat.le_of_ble_eq_true rfl, Nat.le_of_ble_eq_true rfl, cal_263⟩, rfl, gw_1829, gw_1831, gs_263, _, rfl, rfl⟩) <| 
  mA0 rfl <| 
  mA0 rfl <| 
  mA0 rfl <| 
  mA0 rfl <| 
  mA0 rfl <| 
  mA0 rfl <| 
  mA0 rfl <| 
  mA0 rfl <| 
  mA0 rfl <| 
  mA0 rfl <| 
  mA0 rfl <| 
  mA0 rfl <| 
  mA0 rfl <| 
  mA0 rfl <| 
  mA1 rfl (⟨⟨Nat.le_of_ble_eq_true rfl, Nat.le_of_ble_eq_true rfl, Nat.le_of_ble_eq_true rfl, cal_263⟩, rfl, gw_1829, gw_1831, gs_263, _, rfl, rfl⟩) <| 
  mA0 rfl <| 
  mA0 rfl <| 
  mA0 rfl <| 
  mA0 rfl <| 
  mA0 rfl <| 
  mA1 rfl (⟨_, rfl, Nat.le_of_ble_eq_true rfl, gw_1483, rfl⟩) <| 
  mA0 rfl <| 
  mA0 rfl <| 
  mA0 rfl <| 
  mA1 rfl (⟨⟨Nat.le_of_ble_eq_true rfl, Nat.le_of_ble_eq_true rfl, Nat.le_of_ble_eq_true rfl, cal_263⟩, rfl, gw_1829, gw_1831, gs_263, _, rfl, rfl⟩) <| 
  mA0 rfl <| 
  mA0 rfl <| 
  mA0 rfl <| 
  mA0 rfl <| 
  mA1 rfl (rfl) <| trivial

theorem mc_265 : mAllP 265 mt_265 :=
  mA0 rfl <| 
  mA0 rfl <| 
  mA1 rfl (⟨⟨Nat.le_of_ble_eq_true rfl, Nat.le_of_ble_eq_true rfl, Nat.le_of_ble_eq_true rfl, cal_260⟩, rfl, gw_1786, gw_1788, gs_260, _, rfl, rfl⟩) <| 
  mA0 rfl <| 
  mA0 rfl <| 
  mA1 rfl (⟨_, rfl, Nat.le_of_ble_eq_true rfl, gw_1486, rfl, Or.inl rfl⟩) <| 
  mA0 rfl <| 
  mA0 rfl <| 
  mA0 rfl <| 
  mA0 rfl <| 
  mA0 rfl <| 
  mA0 rfl <| 
  mA0 rfl <| 
  mA0 rfl <| 
  mA1 rfl (⟨⟨Nat.le_of_ble_eq_true rfl, Nat.le_of_ble_eq_true rfl, Nat.le_of_ble_eq_true rfl, cal_262⟩, rfl, gw_1817, gw_1819, gs_262, _, rfl, rfl⟩) <| 
  mA0 rfl <| 
  mA0 rfl <| 
  mA0 rfl <| 
  mA0 rfl <| 
  mA0 rfl <| 
  mA0 rfl <| 
  mA0 rfl <| 
  mA1 rfl (⟨⟨Nat.le_of_ble_eq_true rfl, Nat.le_of_ble_eq_true rfl, Nat.le_of_ble_eq_true rfl, cal_264⟩, rfl, gw_1825, gw_1827, gs_264, _, rfl, rfl⟩) <| 
  mA0 rfl <| 
  mA0 rfl <| 
  mA0 rfl <| 
  mA0 rfl <| 
  mA0 rfl <| 
  mA1 rfl (⟨_, rfl, Nat.le_of_ble_eq_true rfl, gw_1484, rfl⟩) <| 
  mA0 rfl <| 
  mA0 rfl <| 
  mA0 rfl <| 
  mA1 rfl (⟨_, rfl, Nat.le_of_ble_eq_true rfl, gw_1483, rfl⟩) <| 
  mA0 rfl <| 
  mA0 rfl <| 
  mA0 rfl <| 
  mA0 rfl <| 
  mA1 rfl (⟨⟨Nat.le_of_ble_eq_true rfl, Nat.le_of_ble_eq_true rfl, Nat.le_of_ble_eq_true rfl, cal_263⟩, rfl, gw_1829, gw_1831, gs_263, _, rfl, rfl⟩) <| 
  mA0 rfl <| 
  mA0 rfl <| 
  mA0 rfl <| 
  mA0 rfl <| 
  mA1 rfl (⟨⟨Nat.le_of_ble_eq_true rfl, Nat.le_of_ble_eq_true rfl, Nat.le_of_ble_eq_true rfl, cal_263⟩, rfl, gw_1829, gw_1831, gs_263, _, rfl, rfl⟩) <| 
  mA0 rfl <| 
  mA0 rfl <| 
  mA1 rfl (rfl) <| trivial

theorem mc_266 : mAllP 266 mt_266 :=
  mA0 rfl <| 
  mA0 rfl <| 
  mA0 rfl <| 
  mA0 rfl <| 
  mA1 rfl (⟨_, rfl, Nat.le_of_ble_eq_true rfl, gw_1486, rfl⟩) <| 
  mA0 rfl <| 
  mA0 rfl <| 
  mA1 rfl (⟨_, rfl, Nat.le_of_ble_eq_true rfl, gw_1487, rfl⟩) <| 
  mA0 rfl <| 
  mA0 rfl <| 
  mA1 rfl (⟨_, rfl, Nat.le_of_ble_eq_true rfl, gw_1485, rfl⟩) <| 
  mA0 rfl <| 
  mA0 rfl <| 
  mA0 rfl <| 
  mA0 rfl <| 
  mA0 rfl <| 
  mA0 rfl <| 
  mA0 rfl <| 
  mA1 rfl (⟨_, rfl, Nat.le_of_ble_eq_true rfl, gw_1486, rfl⟩) <| 
  mA1 rfl (⟨_, rfl, Nat.le_of_ble_eq_true rfl, gw_1488, rfl, Or.inl rfl⟩) <| 
  mA1 rfl (rfl) <| trivial

theorem mc_267 : mAllP 267 mt_267 :=
  mA0 rfl <| 
  mA0 rfl <| 
  mA0 rfl <| 
  mA0 rfl <| 
  mA1 rfl (⟨_, rfl, Nat.le_of_ble_eq_true rfl, gw_1488, rfl⟩) <| 
  mA0 rfl <| 
  mA0 rfl <| 
  mA0 rfl <| 
  mA1 rfl (⟨_, rfl, Nat.le_of_ble_eq_true rfl, gw_1486, rfl⟩) <| 
  mA0 rfl <| 
  mA0 rfl <| 
  mA1 rfl (⟨_, rfl, Nat.le_of_ble_eq_true rfl, gw_1487, rfl⟩) <| 
  mA0 rfl <| 
  mA0 rfl <| 
  mA0 rfl <| 
  mA1 rfl (⟨_, rfl, Nat.le_of_ble_eq_true rfl, gw_1485, rfl⟩) <| 
  mA0 rfl <| 
  mA0 rfl <| 
  mA0 rfl <| 
  mA0 rfl <| 
  mA1 rfl (⟨_, rfl, Nat.le_of_ble_eq_true rfl, gw_1487, rfl⟩) <| 
  mA0 rfl <| 
  mA0 rfl <| 
  mA0 rfl <| 
  mA1 rfl (⟨_, rfl, Nat.le_of_ble_eq_true rfl, gw_1485, rfl⟩) <| 
  mA0 rfl <| 
  mA0 rfl <| 
  mA0 rfl <| 
  mA0 rfl <| 
  mA0 rfl <| 
  mA0 rfl <| 
  mA1 rfl (Or.inl ⟨rfl, rfl⟩) <| 
  mA0 rfl <| 
  mA0 rfl <| 
  mA0 rfl <| 
  mA1 rfl (⟨_, rfl, Nat.le_of_ble_eq_true rfl, gw_1488, rfl⟩) <| 
  mA0 rfl <| 
  mA1 rfl (⟨_, rfl, Nat.le_of_ble_eq_true rfl, gw_1486, rfl⟩) <| 
  mA0 rfl <| 
  mA0 rfl <| 
  mA0 rfl <| 
  mA0 rfl <| 
  mA1 rfl (⟨_, rfl, Nat.le_of_ble_eq_true rfl, gw_1488, rfl⟩) <| 
  mA0 rfl <| 
  mA1 rfl (⟨_, rfl, Nat.le_of_ble_eq_true rfl, gw_1486, rfl⟩) <| 
  mA0 rfl <| 
  mA0 rfl <| 
  mA0 rfl <| 
  mA0 rfl <| 
  mA1 rfl (Or.inl ⟨rfl, rfl⟩) <| trivial

theorem mc_268 : mAllP 268 mt_268 :=
  mA0 rfl <| 
  mA0 rfl <| 
  mA1 rfl (⟨_, rfl, Nat.le_of_ble_eq_true rfl, gw_1448, rfl, Or.inl rfl⟩) <| 
  mA0 rfl <| 
  mA1 rfl (⟨_, rfl, Nat.le_of_ble_eq_true rfl, gw_1459, rfl⟩) <| 
  mA1 rfl (Or.inl ⟨rfl, rfl⟩) <| trivial

theorem mc_269 : mAllP 269 mt_269 :=
  mA0 rfl <| 
  mA0 rfl <| 
  mA0 rfl <| 
  mA1 rfl (⟨⟨Nat.le_of_ble_eq_true rfl, Nat.le_of_ble_eq_true rfl, Nat.le_of_ble_eq_true rfl, cal_218⟩, rfl, gw_1898, gw_1900, gs_218, _, rfl, rfl⟩) <| 
  mA0 rfl <| 
  mA0 rfl <| 
  mA0 rfl <| 
  mA0 rfl <| 
  mA0 rfl <| 
  mA0 rfl <| 
  mA1 rfl (⟨⟨Nat.le_of_ble_eq_true rfl, Nat.le_of_ble_eq_true rfl, Nat.le_of_ble_eq_true rfl, cal_210⟩, rfl, gw_1674, gw_1676, gs_210, _, rfl, rfl⟩) <| 
  mA0 rfl <| 
  mA0 rfl <| 
  mA1 rfl (Or.inl ⟨rfl, rfl⟩) <| 
  mA0 rfl <| 
  mA0 rfl <| 
  mA1 rfl (⟨⟨Nat.le_of_ble_eq_true rfl, Nat.le_of_ble_eq_true rfl, Nat.le_of_ble_eq_true rfl, cal_227⟩, rfl, gw_1902, gw_1904, gs_227, _, rfl, rfl⟩) <| 
  mA0 rfl <| 
  mA0 rfl <| 
  mA0 rfl <| 
  mA1 rfl (⟨⟨Nat.le_of_ble_eq_true rfl, Nat.le_of_ble_eq_true rfl, Nat.le_of_ble_eq_true rfl, cal_229⟩, rfl, gw_1906, gw_1908, gs_229, _, rfl, rfl⟩) <| 
  mA0 rfl <| 
  mA0 rfl <| 
  mA1 rfl (⟨_, rfl, Nat.le_of_ble_eq_true rfl, gw_1461, rfl⟩) <| 
  mA0 rfl <| 
  mA0 rfl <| 
  mA1 rfl (⟨_, rfl, Nat.le_of_ble_eq_true rfl, gw_1460, rfl⟩) <| 
  mA0 rfl <| 
  mA0 rfl <| 
  mA0 rfl <| 
  mA0 rfl <| 
  mA1 rfl (Or.inl ⟨rfl, rfl⟩) <| trivial

theorem mc_270 : mAllP 270 mt_270 :=
  mA0 rfl <| 
  mA0 rfl <| 
  mA1 rfl (⟨⟨Nat.le_of_ble_eq_true rfl, Nat.le_of_ble_eq_true rfl, Nat.le_of_ble_eq_true rfl, cal_219⟩, gw_1720, Or.inl gw_1719⟩) <| 
  mA0 rfl <| 
  mA0 rfl <| 
  mA0 rfl <| 
  mA1 rfl (⟨⟨Nat.le_of_ble_eq_true rfl, Nat.le_of_ble_eq_true rfl, Nat.le_of_ble_eq_true rfl, cal_218⟩, rfl, gw_1898, gw_1900, gs_218, _, rfl, rfl⟩) <| 
  mA0 rfl <| 
  mA0 rfl <| 
  mA0 rfl <| 
  mA0 rfl <| 
  mA0 rfl <| 
  mA0 rfl <| 
  mA1 rfl (⟨⟨Nat.le_of_ble_eq_true rfl, Nat.le_of_ble_eq_true rfl, Nat.le_of_ble_eq_true rfl, cal_210⟩, rfl, gw_1674, gw_1676, gs_210, _, rfl, rfl⟩) <| 
  mA0 rfl <| 
  mA0 rfl <| 
  mA1 rfl (Or.inl ⟨rfl, rfl⟩) <| 
  mA0 rfl <| 
  mA0 rfl <| 
  mA1 rfl (⟨⟨Nat.le_of_ble_eq_true rfl, Nat.le_of_ble_eq_true rfl, Nat.le_of_ble_eq_true rfl, cal_227⟩, rfl, gw_1902, gw_1904, gs_227, _, rfl, rfl⟩) <| 
  mA0 rfl <| 
  mA0 rfl <| 
  mA1 rfl (⟨⟨Nat.le_of_ble_eq_true rfl, Nat.le_of_ble_eq_true rfl, Nat.le_of_ble_eq_true rfl, cal_260⟩, rfl, gw_1786, gw_1788, gs_260, _, rfl, rfl⟩) <| 
  mA0 rfl <| 
  mA0 rfl <| 
  mA1 rfl (⟨_, rfl, Nat.le_of_ble_eq_true rfl, gw_1480, rfl⟩) <| 
  mA0 rfl <| 
  mA0 rfl <| 
  mA0 rfl <| 
  mA1 rfl (⟨_, rfl, Nat.le_of_ble_eq_true rfl, gw_1476, rfl⟩) <| 
  mA0 rfl <| 
  mA0 rfl <| 
  mA0 rfl <| 
  mA0 rfl <| 
  mA0 rfl <| 
  mA1 rfl (⟨_, rfl, Nat.le_of_ble_eq_true rfl, gw_1477, rfl⟩) <| 
  mA0 rfl <| 
  mA0 rfl <| 
  mA0 rfl <| 
  mA0 rfl <| 
  mA0 rfl <| 
  mA1 rfl (⟨_, rfl, Nat.le_of_ble_eq_true rfl, gw_1478, rfl⟩) <| 
  mA0 rfl <| 
  mA0 rfl <| 
  mA0 rfl <| 
  mA0 rfl <| 
  mA0 rfl <| 
  mA1 rfl (Or.inl ⟨rfl, rfl⟩) <| trivial

theorem mc_271 : mAllP 271 mt_271 :=
  mA0 rfl <| 
  mA0 rfl <| 
  mA0 rfl <| 
  mA1 rfl (⟨⟨Nat.le_of_ble_eq_true rfl, Nat.le_of_ble_eq_true rfl, Nat.le_of_ble_eq_true rfl, cal_211⟩, gw_1672, Or.inl gw_1671⟩) <| 
  mA1 rfl (Or.inr ⟨by decide, rfl⟩) <| trivial

theorem mc_272 : mAllP 272 mt_272 :=
  mA0 rfl <| 
  mA1 rfl (⟨⟨Nat.le_of_ble_eq_true rfl, Nat.le_of_ble_eq_true rfl, Nat.le_of_ble_eq_true rfl, cal_219⟩, gw_1720, Or.inl gw_1719⟩) <| 
  mA0 rfl <| 
  mA0 rfl <| 
  mA0 rfl <| 
  mA1 rfl (⟨⟨Nat.le_of_ble_eq_true rfl, Nat.le_of_ble_eq_true rfl, Nat.le_of_ble_eq_true rfl, cal_218⟩, rfl, gw_1898, gw_1900, gs_218, _, rfl, rfl⟩) <| 
  mA0 rfl <| 
  mA0 rfl <| 
  mA0 rfl <| 
  mA0 rfl <| 
  mA0 rfl <| 
  mA0 rfl <| 
  mA0 rfl <| 
  mA0 rfl <| 
  mA0 rfl <| 
  mA0 rfl <| 
  mA0 rfl <| 
  mA0 rfl <| 
  mA0 rfl <| 
  mA1 rfl (⟨⟨Nat.le_of_ble_eq_true rfl, Nat.le_of_ble_eq_true rfl, Nat.le_of_ble_eq_true rfl, cal_271⟩, gw_1923, Or.inl gw_1922⟩) <| 
  mA0 rfl <| 
  mA0 rfl <| 
  mA0 rfl <| 
  mA0 rfl <| 
  mA1 rfl (⟨⟨Nat.le_of_ble_eq_true rfl, Nat.le_of_ble_eq_true rfl, Nat.le_of_ble_eq_true rfl, cal_210⟩, rfl, gw_1674, gw_1676, gs_210, _, rfl, rfl⟩) <| 
  mA0 rfl <| 
  mA0 rfl <| 
  mA1 rfl (Or.inl ⟨rfl, rfl⟩) <| 
  mA0 rfl <| 
  mA0 rfl <| 
  mA1 rfl (⟨⟨Nat.le_of_ble_eq_true rfl, Nat.le_of_ble_eq_true rfl, Nat.le_of_ble_eq_true rfl, cal_227⟩, rfl, gw_1902, gw_1904, gs_227, _, rfl, rfl⟩) <| 
  mA0 rfl <| 
  mA0 rfl <| 
  mA0 rfl <| 
  mA1 rfl (⟨⟨Nat.le_of_ble_eq_true rfl, Nat.le_of_ble_eq_true rfl, Nat.le_of_ble_eq_true rfl, cal_265⟩, rfl, gw_1782, gw_1784, gs_265, _, rfl, rfl⟩) <| 
  mA0 rfl <| 
  mA0 rfl <| 
  mA1 rfl (⟨_, rfl, Nat.le_of_ble_eq_true rfl, gw_1486, rfl⟩) <| 
  mA0 rfl <| 
  mA0 rfl <| 
  mA1 rfl (⟨_, rfl, Nat.le_of_ble_eq_true rfl, gw_1485, rfl⟩) <| 
  mA0 rfl <| 
  mA0 rfl <| 
  mA0 rfl <| 
  mA0 rfl <| 
  mA1 rfl (Or.inl ⟨rfl, rfl⟩) <| trivial

theorem mc_273 : mAllP 273 mt_273 :=
  mA0 rfl <| 
  mA0 rfl <| 
  mA1 rfl (⟨⟨Nat.le_of_ble_eq_true rfl, Nat.le_of_ble_eq_true rfl, Nat.le_of_ble_eq_true rfl, cal_227⟩, rfl, gw_1902, gw_1904, gs_227, _, rfl, rfl⟩) <| 
  mA0 rfl <| 
  mA0 rfl <| 
  mA0 rfl <| 
  mA1 rfl (⟨⟨Nat.le_of_ble_eq_true rfl, Nat.le_of_ble_eq_true rfl, Nat.le_of_ble_eq_true rfl, cal_265⟩, rfl, gw_1782, gw_1784, gs_265, _, rfl, rfl⟩) <| 
  mA0 rfl <| 
  mA1 rfl (⟨⟨Nat.le_of_ble_eq_true rfl, Nat.le_of_ble_eq_true rfl, Nat.le_of_ble_eq_true rfl, cal_266⟩, rfl, gw_1833, gw_1835, gs_266, _, rfl, rfl⟩) <| 
  mA0 rfl <| 
  mA0 rfl <| 
  mA1 rfl (⟨⟨Nat.le_of_ble_eq_true rfl, Nat.le_of_ble_eq_true rfl, Nat.le_of_ble_eq_true rfl, cal_227⟩, rfl, gw_1902, gw_1904, gs_227, _, rfl, rfl⟩) <| 
  mA0 rfl <| 
  mA0 rfl <| 
  mA0 rfl <| 
  mA1 rfl (⟨⟨Nat.le_of_ble_eq_true rfl, Nat.le_of_ble_eq_true rfl, Nat.le_of_ble_eq_true rfl, cal_265⟩, rfl, gw_1782, gw_1784, gs_265, _, rfl, rfl⟩) <| 
  mA0 rfl <| 
  mA1 rfl (⟨⟨Nat.le_of_ble_eq_true rfl, Nat.le_of_ble_eq_true rfl, Nat.le_of_ble_eq_true rfl, cal_267⟩, rfl, gw_1837, gw_1839, gs_267, _, rfl, rfl⟩) <| 
  mA1 rfl (Or.inl ⟨rfl, rfl⟩) <| trivial

theorem mc_274 : mAllP 274 mt_274 :=
  mA0 rfl <| 
  mA1 rfl (⟨⟨Nat.le_of_ble_eq_true rfl, Nat.le_of_ble_eq_true rfl, Nat.le_of_ble_eq_true rfl, cal_219⟩, gw_1720, Or.inl gw_1719⟩) <| 
  mA0 rfl <| 
  mA0 rfl <| 
  mA0 rfl <| 
  mA1 rfl (⟨⟨Nat.le_of_ble_eq_true rfl, Nat.le_of_ble_eq_true rfl, Nat.le_of_ble_eq_true rfl, cal_218⟩, rfl, gw_1898, gw_1900, gs_218, _, rfl, rfl⟩) <| 
  mA0 rfl <| 
  mA0 rfl <| 
  mA0 rfl <| 
  mA1 rfl (⟨⟨Nat.le_of_ble_eq_true rfl, Nat.le_of_ble_eq_true rfl, Nat.le_of_ble_eq_true rfl, cal_218⟩, rfl, gw_1898, gw_1900, gs_218, _, rfl, rfl⟩) <| 
  mA0 rfl <| 
  mA0 rfl <| 
  mA0 rfl <| 
  mA0 rfl <| 
  mA0 rfl <| 
  mA0 rfl <| 
  mA0 rfl <| 
  mA0 rfl <| 
  mA0 rfl <| 
  mA0 rfl <| 
  mA0 rfl <| 
  mA1 rfl (⟨⟨Nat.le_of_ble_eq_true rfl, Nat.le_of_ble_eq_true rfl, Nat.le_of_ble_eq_true rfl, cal_271⟩, gw_1923, Or.inl gw_1922⟩) <| 
  mA0 rfl <| 
  mA0 rfl <| 
  mA0 rfl <| 
  mA0 rfl <| 
  mA1 rfl (⟨⟨Nat.le_of_ble_eq_true rfl, Nat.le_of_ble_eq_true rfl, Nat.le_of_ble_eq_true rfl, cal_210⟩, rfl, gw_1674, gw_1676, gs_210, _, rfl, rfl⟩) <| 
  mA0 rfl <| 
  mA0 rfl <| 
  mA0 rfl <| 
  mA0 rfl <| 
  mA0 rfl <| 
  mA0 rfl <| 
  mA1 rfl (⟨⟨Nat.le_of_ble_eq_true rfl, Nat.le_of_ble_eq_true rfl, Nat.le_of_ble_eq_true rfl, cal_273⟩, rfl, gw_1933, gw_1935, gs_273, _, rfl, rfl⟩) <| 
  mA0 rfl <| 
  mA0 rfl <| 
  mA1 rfl (Or.inl ⟨rfl, rfl⟩) <| trivial

theorem mc_275 : mAllP 275 mt_275 :=
  mA0 rfl <| 
  mA0 rfl <| 
  mA0 rfl <| 
  mA0 rfl <| 
  mA0 rfl <| 
  mA1 rfl (⟨⟨Nat.le_of_ble_eq_true rfl, Nat.le_of_ble_eq_true rfl, Nat.le_of_ble_eq_true rfl, cal_274⟩, rfl, gw_1929, gw_1931, gs_274, _, rfl, rfl⟩) <| 
  mA1 rfl (Or.inl ⟨rfl, rfl⟩) <| trivial

theorem mc_276 : mAllP 276 mt_276 :=
  mA0 rfl <| 
  mA0 rfl <| 
  mA0 rfl <| 
  mA0 rfl <| 
  mA0 rfl <| 
  mA1 rfl (⟨⟨Nat.le_of_ble_eq_true rfl, Nat.le_of_ble_eq_true rfl, Nat.le_of_ble_eq_true rfl, cal_274⟩, rfl, gw_1929, gw_1931, gs_274, _, rfl, rfl⟩) <| 
  mA1 rfl (Or.inl ⟨rfl, rfl⟩) <| trivial

theorem mc_277 : mAllP 277 mt_277 :=
  mA0 rfl <| 
  mA0 rfl <| 
  mA1 rfl (⟨⟨Nat.le_of_ble_eq_true rfl, Nat.le_of_ble_eq_true rfl, Nat.le_of_ble_eq_true rfl, cal_227⟩, rfl, gw_1902, gw_1904, gs_227, _, rfl, rfl⟩) <| 
  mA0 rfl <| 
  mA0 rfl <| 
  mA1 rfl (⟨⟨Nat.le_of_ble_eq_true rfl, Nat.le_of_ble_eq_true rfl, Nat.le_of_ble_eq_true rfl, cal_260⟩, rfl, gw_1786, gw_1788, gs_260, _, rfl, rfl⟩) <| 
  mA0 rfl <| 
  mA0 rfl <| 
  mA0 rfl <| 
  mA0 rfl <| 
  mA0 rfl <| 
  mA0 rfl <| 
  mA1 rfl (⟨_, rfl, Nat.le_of_ble_eq_true rfl, gw_1461, rfl⟩) <| 
  mA0 rfl <| 
  mA0 rfl <| 
  mA0 rfl <| 
  mA1 rfl (⟨_, rfl, Nat.le_of_ble_eq_true rfl, gw_1461, rfl⟩) <| 
  mA0 rfl <| 
  mA0 rfl <| 
  mA1 rfl (⟨_, rfl, Nat.le_of_ble_eq_true rfl, gw_1460, rfl⟩) <| 
  mA0 rfl <| 
  mA0 rfl <| 
  mA1 rfl (⟨⟨Nat.le_of_ble_eq_true rfl, Nat.le_of_ble_eq_true rfl, Nat.le_of_ble_eq_true rfl, cal_212⟩, gw_1686, Or.inl gw_1685⟩) <| 
  mA0 rfl <| 
  mA0 rfl <| 
  mA0 rfl <| 
  mA0 rfl <| 
  mA0 rfl <| 
  mA0 rfl <| 
  mA0 rfl <| 
  mA0 rfl <| 
  mA0 rfl <| 
  mA0 rfl <| 
  mA0 rfl <| 
  mA0 rfl <| 
  mA0 rfl <| 
  mA0 rfl <| 
  mA1 rfl (⟨_, rfl, Nat.le_of_ble_eq_true rfl, gw_1461, rfl⟩) <| 
  mA0 rfl <| 
  mA0 rfl <| 
  mA0 rfl <| 
  mA0 rfl <| 
  mA1 rfl (⟨_, rfl, Nat.le_of_ble_eq_true rfl, gw_1481, rfl⟩) <| 
  mA0 rfl <| 
  mA0 rfl <| 
  mA0 rfl <| 
  mA1 rfl (⟨_, rfl, Nat.le_of_ble_eq_true rfl, gw_1481, rfl⟩) <| 
  mA0 rfl <| 
  mA0 rfl <| 
  mA0 rfl <| 
  mA0 rfl <| 
  mA0 rfl <| 
  mA0 rfl <| 
  mA0 rfl <| 
  mA0 rfl <| 
  mA0 rfl <| 
  mA0 rfl <| 
  mA0 rfl <| 
  mA0 rfl <| 
  mA0 rfl <| 
  mA0 rfl <| 
  mA0 rfl <| 
  mA0 rfl <| 
  mA0 rfl <| 
  mA0 rfl <| 
  mA0 rfl <| 
  mA0 rfl <| 
  mA0 rfl <| 
  mA0 rfl <| 
  mA0 rfl <| 
  mA0 rfl <| 
  mA1 rfl (rfl) <| trivial

theorem mc_278 : mAllP 278 mt_278 :=
  mA0 rfl <| 
  mA0 rfl <| 
  mA0 rfl <| 
  mA0 rfl <| 
  mA1 rfl (⟨_, rfl, Nat.le_of_ble_eq_true rfl, gw_1461, rfl, Or.inl rfl⟩) <| 
  mA0 rfl <| 
  mA0 rfl <| 
  mA0 rfl <| 
  mA0 rfl <| 
  mA1 rfl (⟨_, rfl, Nat.le_of_ble_eq_true rfl, gw_1461, rfl⟩) <| 
  mA0 rfl <| 
  mA0 rfl <| 
  mA1 rfl (⟨_, rfl, Nat.le_of_ble_eq_true rfl, gw_1460, rfl⟩) <| 
  mA0 rfl <| 
  mA0 rfl <| 
  mA1 rfl (⟨_, rfl, Nat.le_of_ble_eq_true rfl, gw_1457, rfl⟩) <| 
  mA0 rfl <| 
  mA0 rfl <| 
  mA0 rfl <| 
  mA0 rfl <| 
  mA0 rfl <| 
  mA0 rfl <| 
  mA0 rfl <| 
  mA0 rfl <| 
  mA0 rfl <| 
  mA0 rfl <| 
  mA0 rfl <| 
  mA1 rfl (rfl) <| trivial

theorem mc_279 : mAllP 279 mt_279 :=
  mA0 rfl <| 
  mA0 rfl <| 
  mA0 rfl <| 
  mA1 rfl (⟨⟨Nat.le_of_ble_eq_true rfl, Nat.le_of_ble_eq_true rfl, Nat.le_of_ble_eq_true rfl, cal_277⟩, rfl, gw_1949, gw_1951, gs_277, _, rfl, rfl⟩) <| 
  mA0 rfl <| 
  mA0 rfl <| 
  mA0 rfl <| 
  mA1 rfl (⟨⟨Nat.le_of_ble_eq_true rfl, Nat.le_of_ble_eq_true rfl, Nat.le_of_ble_eq_true rfl, cal_227⟩, rfl, gw_1902, gw_1904, gs_227, _, rfl, rfl⟩) <| 
  mA0 rfl <| 
  mA0 rfl <| 
  mA0 rfl <| 
  mA1 rfl (⟨⟨Nat.le_of_ble_eq_true rfl, Nat.le_of_ble_eq_true rfl, Nat.le_of_ble_eq_true rfl, cal_265⟩, rfl, gw_1782, gw_1784, gs_265, _, rfl, rfl⟩) <| 
  mA0 rfl <| 
  mA1 rfl (⟨⟨Nat.le_of_ble_eq_true rfl, Nat.le_of_ble_eq_true rfl, Nat.le_of_ble_eq_true rfl, cal_266⟩, rfl, gw_1833, gw_1835, gs_266, _, rfl, rfl⟩) <| 
  mA0 rfl <| 
  mA0 rfl <| 
  mA0 rfl <| 
  mA0 rfl <| 
  mA1 rfl (⟨_, rfl, Nat.le_of_ble_eq_true rfl, gw_1458, rfl⟩) <| 
  mA0 rfl <| 
  mA0 rfl <| 
  mA0 rfl <| 
  mA0 rfl <| 
  mA0 rfl <| 
  mA0 rfl <| 
  mA0 rfl <| 
  mA0 rfl <| 
  mA0 rfl <| 
  mA1 rfl (⟨_, rfl, Nat.le_of_ble_eq_true rfl, gw_1458, rfl⟩) <| 
  mA0 rfl <| 
  mA0 rfl <| 
  mA0 rfl <| 
  mA0 rfl <| 
  mA0 rfl <| 
  mA0 rfl <| 
  mA0 rfl <| 
  mA0 rfl <| 
  mA0 rfl <| 
  mA0 rfl <| 
  mA0 rfl <| 
  mA0 rfl <| 
  mA0 rfl <| 
  mA0 rfl <| 
  mA0 rfl <| 
  mA0 rfl <| 
  mA0 rfl <| 
  mA0 rfl <| 
  mA0 rfl <| 
  mA0 rfl <| 
  mA0 rfl <| 
  mA0 rfl <| 
  mA0 rfl <| 
  mA1 rfl (⟨⟨Nat.le_of_ble_eq_true rfl, Nat.le_of_ble_eq_true rfl, Nat.le_of_ble_eq_true rfl, cal_278⟩, rfl, gw_1953, gw_1955, gs_278, _, rfl, rfl⟩) <| 
  mA0 rfl <| 
  mA0 rfl <| 
  mA0 rfl <| 
  mA1 rfl (⟨⟨Nat.le_of_ble_eq_true rfl, Nat.le_of_ble_eq_true rfl, Nat.le_of_ble_eq_true rfl, cal_265⟩, rfl, gw_1782, gw_1784, gs_265, _, rfl, rfl⟩) <| 
  mA0 rfl <| 
  mA1 rfl (⟨⟨Nat.le_of_ble_eq_true rfl, Nat.le_of_ble_eq_true rfl, Nat.le_of_ble_eq_true rfl, cal_267⟩, rfl, gw_1837, gw_1839, gs_267, _, rfl, rfl⟩) <| 
  mA0 rfl <| 
  mA0 rfl <| 
  mA0 rfl <| 
  mA0 rfl <| 
  mA0 rfl <| 
  mA0 rfl <| 
  mA1 rfl (Or.inl ⟨rfl, rfl⟩) <| 
  mA0 rfl <| 
  mA0 rfl <| 
  mA0 rfl <| 
  mA0 rfl <| 
  mA0 rfl <| 
  mA1 rfl (Or.inl ⟨rfl, rfl⟩) <| trivial

theorem mc_280 : mAllP 280 mt_280 :=
  mA0 rfl <| 
  mA1 rfl (⟨⟨Nat.le_of_ble_eq_true rfl, Nat.le_of_ble_eq_true rfl, Nat.le_of_ble_eq_true rfl, cal_219⟩, gw_1720, Or.inl gw_1719⟩) <| 
  mA0 rfl <| 
  mA0 rfl <| 
  mA0 rfl <| 
  mA1 rfl (⟨⟨Nat.le_of_ble_eq_true rfl, Nat.le_of_ble_eq_true rfl, Nat.le_of_ble_eq_true rfl, cal_218⟩, rfl, gw_1898, gw_1900, gs_218, _, rfl, rfl⟩) <| 
  mA0 rfl <| 
  mA0 rfl <| 
  mA0 rfl <| 
  mA1 rfl (⟨⟨Nat.le_of_ble_eq_true rfl, Nat.le_of_ble_eq_true rfl, Nat.le_of_ble_eq_true rfl, cal_218⟩, rfl, gw_1898, gw_1900, gs_218, _, rfl, rfl⟩) <| 
  mA0 rfl <| 
  mA0 rfl <| 
  mA0 rfl <| 
  mA0 rfl <| 
  mA0 rfl <| 
  mA0 rfl <| 
  mA0 rfl <| 
  mA0 rfl <| 
  mA0 rfl <| 
  mA0 rfl <| 
  mA0 rfl <| 
  mA0 rfl <| 
  mA0 rfl <| 
  mA1 rfl (⟨⟨Nat.le_of_ble_eq_true rfl, Nat.le_of_ble_eq_true rfl, Nat.le_of_ble_eq_true rfl, cal_271⟩, gw_1923, Or.inl gw_1922⟩) <| 
  mA0 rfl <| 
  mA0 rfl <| 
  mA0 rfl <| 
  mA0 rfl <| 
  mA1 rfl (⟨⟨Nat.le_of_ble_eq_true rfl, Nat.le_of_ble_eq_true rfl, Nat.le_of_ble_eq_true rfl, cal_210⟩, rfl, gw_1674, gw_1676, gs_210, _, rfl, rfl⟩) <| 
  mA0 rfl <| 
  mA0 rfl <| 
  mA0 rfl <| 
  mA0 rfl <| 
  mA0 rfl <| 
  mA0 rfl <| 
  mA0 rfl <| 
  mA1 rfl (⟨⟨Nat.le_of_ble_eq_true rfl, Nat.le_of_ble_eq_true rfl, Nat.le_of_ble_eq_true rfl, cal_279⟩, rfl, gw_1945, gw_1947, gs_279, _, rfl, rfl⟩) <| 
  mA0 rfl <| 
  mA0 rfl <| 
  mA1 rfl (Or.inl ⟨rfl, rfl⟩) <| trivial

theorem mc_281 : mAllP 281 mt_281 :=
  mA0 rfl <| 
  mA0 rfl <| 
  mA0 rfl <| 
  mA0 rfl <| 
  mA1 rfl (⟨⟨Nat.le_of_ble_eq_true rfl, Nat.le_of_ble_eq_true rfl, Nat.le_of_ble_eq_true rfl, cal_211⟩, gw_1672, Or.inl gw_1671⟩) <| 
  mA0 rfl <| 
  mA0 rfl <| 
  mA0 rfl <| 
  mA0 rfl <| 
  mA1 rfl (⟨⟨Nat.le_of_ble_eq_true rfl, Nat.le_of_ble_eq_true rfl, Nat.le_of_ble_eq_true rfl, cal_210⟩, rfl, gw_1674, gw_1676, gs_210, _, rfl, rfl⟩) <| 
  mA0 rfl <| 
  mA0 rfl <| 
  mA1 rfl (Or.inl ⟨rfl, rfl⟩) <| 
  mA0 rfl <| 
  mA1 rfl (⟨_, rfl, Nat.le_of_ble_eq_true rfl, gw_1489, rfl⟩) <| 
  mA0 rfl <| 
  mA0 rfl <| 
  mA0 rfl <| 
  mA0 rfl <| 
  mA0 rfl <| 
  mA0 rfl <| 
  mA0 rfl <| 
  mA0 rfl <| 
  mA0 rfl <| 
  mA0 rfl <| 
  mA0 rfl <| 
  mA0 rfl <| 
  mA1 rfl (⟨_, rfl, Nat.le_of_ble_eq_true rfl, gw_1489, rfl⟩) <| 
  mA0 rfl <| 
  mA0 rfl <| 
  mA0 rfl <| 
  mA0 rfl <| 
  mA0 rfl <| 
  mA0 rfl <| 
  mA0 rfl <| 
  mA0 rfl <| 
  mA0 rfl <| 
  mA0 rfl <| 
  mA0 rfl <| 
  mA1 rfl (Or.inl ⟨rfl, rfl⟩) <| trivial

theorem mc_282 : mAllP 282 mt_282 :=
  mA0 rfl <| 
  mA0 rfl <| 
  mA0 rfl <| 
  mA1 rfl (⟨_, rfl, Nat.le_of_ble_eq_true rfl, gw_1499, rfl⟩) <| 
  mA0 rfl <| 
  mA0 rfl <| 
  mA1 rfl (⟨⟨Nat.le_of_ble_eq_true rfl, Nat.le_of_ble_eq_true rfl, Nat.le_of_ble_eq_true rfl, cal_211⟩, gw_1672, Or.inl gw_1671⟩) <| 
  mA1 rfl (Or.inr ⟨by decide, rfl⟩) <| trivial

theorem mc_283 : mAllP 283 mt_283 :=
  mA0 rfl <| 
  mA0 rfl <| 
  mA0 rfl <| 
  mA0 rfl <| 
  mA0 rfl <| 
  mA1 rfl (⟨⟨Nat.le_of_ble_eq_true rfl, Nat.le_of_ble_eq_true rfl, Nat.le_of_ble_eq_true rfl, cal_282⟩, rfl, gw_1965, gw_1967, gs_282, _, rfl, rfl⟩) <| 
  mA0 rfl <| 
  mA0 rfl <| 
  mA0 rfl <| 
  mA1 rfl (⟨⟨Nat.le_of_ble_eq_true rfl, Nat.le_of_ble_eq_true rfl, Nat.le_of_ble_eq_true rfl, cal_218⟩, rfl, gw_1898, gw_1900, gs_218, _, rfl, rfl⟩) <| 
  mA0 rfl <| 
  mA0 rfl <| 
  mA0 rfl <| 
  mA0 rfl <| 
  mA0 rfl <| 
  mA0 rfl <| 
  mA0 rfl <| 
  mA0 rfl <| 
  mA1 rfl (⟨_, rfl, Nat.le_of_ble_eq_true rfl, gw_1499, rfl⟩) <| 
  mA0 rfl <| 
  mA0 rfl <| 
  mA0 rfl <| 
  mA0 rfl <| 
  mA0 rfl <| 
  mA0 rfl <| 
  mA1 rfl (⟨_, rfl, Nat.le_of_ble_eq_true rfl, gw_1490, rfl⟩) <| 
  mA0 rfl <| 
  mA0 rfl <| 
  mA0 rfl <| 
  mA0 rfl <| 
  mA0 rfl <| 
  mA0 rfl <| 
  mA0 rfl <| 
  mA0 rfl <| 
  mA0 rfl <| 
  mA0 rfl <| 
  mA0 rfl <| 
  mA0 rfl <| 
  mA0 rfl <| 
  mA0 rfl <| 
  mA0 rfl <| 
  mA0 rfl <| 
  mA1 rfl (⟨⟨Nat.le_of_ble_eq_true rfl, Nat.le_of_ble_eq_true rfl, Nat.le_of_ble_eq_true rfl, cal_211⟩, gw_1672, Or.inl gw_1671⟩) <| 
  mA0 rfl <| 
  mA0 rfl <| 
  mA0 rfl <| 
  mA0 rfl <| 
  mA0 rfl <| 
  mA0 rfl <| 
  mA0 rfl <| 
  mA0 rfl <| 
  mA1 rfl (⟨⟨Nat.le_of_ble_eq_true rfl, Nat.le_of_ble_eq_true rfl, Nat.le_of_ble_eq_true rfl, cal_210⟩, rfl, gw_1674, gw_1676, gs_210, _, rfl, rfl⟩) <| 
  mA0 rfl <| 
  mA0 rfl <| 
  mA1 rfl (Or.inl ⟨rfl, rfl⟩) <| 
  mA0 rfl <| 
  mA1 rfl (⟨_, rfl, Nat.le_of_ble_eq_true rfl, gw_1490, rfl⟩) <| 
  mA0 rfl <| 
  mA1 rfl (⟨_, rfl, Nat.le_of_ble_eq_true rfl, gw_1499, rfl⟩) <| 
  mA0 rfl <| 
  mA0 rfl <| 
  mA0 rfl <| 
  mA1 rfl (⟨_, rfl, Nat.le_of_ble_eq_true rfl, gw_1491, rfl⟩) <| 
  mA0 rfl <| 
  mA1 rfl (⟨_, rfl, Nat.le_of_ble_eq_true rfl, gw_1499, rfl⟩) <| 
  mA0 rfl <| 
  mA0 rfl <| 
  mA0 rfl <| 
  mA1 rfl (⟨_, rfl, Nat.le_of_ble_eq_true rfl, gw_1492, rfl⟩) <| 
  mA0 rfl <| 
  mA1 rfl (⟨_, rfl, Nat.le_of_ble_eq_true rfl, gw_1499, rfl⟩) <| 
  mA0 rfl <| 
  mA0 rfl <| 
  mA0 rfl <| 
  mA0 rfl <| 
  mA0 rfl <| 
  mA0 rfl <| 
  mA1 rfl (⟨_, rfl, Nat.le_of_ble_eq_true rfl, gw_1492, rfl⟩) <| 
  mA0 rfl <| 
  mA0 rfl <| 
  mA0 rfl <| 
  mA0 rfl <| 
  mA1 rfl (⟨_, rfl, Nat.le_of_ble_eq_true rfl, gw_1497, rfl⟩) <| 
  mA0 rfl <| 
  mA1 rfl (⟨_, rfl, Nat.le_of_ble_eq_true rfl, gw_1499, rfl⟩) <| 
  mA0 rfl <| 
  mA0 rfl <| 
  mA0 rfl <| 
  mA0 rfl <| 
  mA1 rfl (⟨_, rfl, Nat.le_of_ble_eq_true rfl, gw_1499, rfl⟩) <| 
  mA0 rfl <| 
  mA0 rfl <| 
  mA1 rfl (⟨_, rfl, Nat.le_of_ble_eq_true rfl, gw_1499, rfl, Or.inl rfl⟩) <| 
  mA0 rfl <| 
  mA1 rfl (⟨_, rfl, Nat.le_of_ble_eq_true rfl, gw_1499, rfl⟩) <| 
  mA0 rfl <| 
  mA0 rfl <| 
  mA1 rfl (Or.inl ⟨rfl, rfl⟩) <| trivial

theorem mc_284 : mAllP 284 mt_284 :=
  mA0 rfl <| 
  mA0 rfl <| 
  mA1 rfl (⟨⟨Nat.le_of_ble_eq_true rfl, Nat.le_of_ble_eq_true rfl, Nat.le_of_ble_eq_true rfl, cal_282⟩, rfl, gw_1965, gw_1967, gs_282, _, rfl, rfl⟩) <| 
  mA0 rfl <| 
  mA0 rfl <| 
  mA0 rfl <| 
  mA0 rfl <| 
  mA1 rfl (⟨_, rfl, Nat.le_of_ble_eq_true rfl, gw_1458, rfl⟩) <| 
  mA0 rfl <| 
  mA1 rfl (⟨_, rfl, Nat.le_of_ble_eq_true rfl, gw_1491, rfl⟩) <| 
  mA0 rfl <| 
  mA0 rfl <| 
  mA0 rfl <| 
  mA0 rfl <| 
  mA0 rfl <| 
  mA0 rfl <| 
  mA0 rfl <| 
  mA0 rfl <| 
  mA0 rfl <| 
  mA0 rfl <| 
  mA0 rfl <| 
  mA1 rfl (⟨⟨Nat.le_of_ble_eq_true rfl, Nat.le_of_ble_eq_true rfl, Nat.le_of_ble_eq_true rfl, cal_211⟩, gw_1672, Or.inl gw_1671⟩) <| 
  mA0 rfl <| 
  mA0 rfl <| 
  mA0 rfl <| 
  mA0 rfl <| 
  mA0 rfl <| 
  mA0 rfl <| 
  mA0 rfl <| 
  mA0 rfl <| 
  mA0 rfl <| 
  mA1 rfl (⟨⟨Nat.le_of_ble_eq_true rfl, Nat.le_of_ble_eq_true rfl, Nat.le_of_ble_eq_true rfl, cal_211⟩, gw_1672, Or.inl gw_1671⟩) <| 
  mA0 rfl <| 
  mA0 rfl <| 
  mA0 rfl <| 
  mA0 rfl <| 
  mA0 rfl <| 
  mA0 rfl <| 
  mA0 rfl <| 
  mA0 rfl <| 
  mA0 rfl <| 
  mA0 rfl <| 
  mA0 rfl <| 
  mA0 rfl <| 
  mA0 rfl <| 
  mA0 rfl <| 
  mA0 rfl <| 
  mA1 rfl (⟨⟨Nat.le_of_ble_eq_true rfl, Nat.le_of_ble_eq_true rfl, Nat.le_of_ble_eq_true rfl, cal_210⟩, rfl, gw_1674, gw_1676, gs_210, _, rfl, rfl⟩) <| 
  mA0 rfl <| 
  mA0 rfl <| 
  mA1 rfl (Or.inl ⟨rfl, rfl⟩) <| 
  mA0 rfl <| 
  mA1 rfl (⟨_, rfl, Nat.le_of_ble_eq_true rfl, gw_1493, rfl⟩) <| 
  mA0 rfl <| 
  mA0 rfl <| 
  mA0 rfl <| 
  mA0 rfl <| 
  mA1 rfl (⟨_, rfl, Nat.le_of_ble_eq_true rfl, gw_1493, rfl⟩) <| 
  mA0 rfl <| 
  mA0 rfl <| 
  mA0 rfl <| 
  mA0 rfl <| 
  mA1 rfl (⟨_, rfl, Nat.le_of_ble_eq_true rfl, gw_1494, rfl⟩) <| 
  mA0 rfl <| 
  mA0 rfl <| 
  mA0 rfl <| 
  mA0 rfl <| 
  mA1 rfl (Or.inl ⟨rfl, rfl⟩) <| trivial

theorem mc_285 : mAllP 285 mt_285 :=
  mA0 rfl <| 
  mA0 rfl <| 
  mA0 rfl <| 
  mA0 rfl <| 
  mA0 rfl <| 
  mA0 rfl <| 
  mA1 rfl (⟨_, rfl, Nat.le_of_ble_eq_true rfl, gw_1496, rfl⟩) <| 
  mA0 rfl <| 
  mA0 rfl <| 
  mA0 rfl <| 
  mA0 rfl <| 
  mA1 rfl (⟨_, rfl, Nat.le_of_ble_eq_true rfl, gw_1495, rfl⟩) <| 
  mA0 rfl <| 
  mA0 rfl <| 
  mA0 rfl <| 
  mA0 rfl <| 
  mA0 rfl <| 
  mA0 rfl <| 
  mA0 rfl <| 
  mA0 rfl <| 
  mA0 rfl <| 
  mA0 rfl <| 
  mA0 rfl <| 
  mA0 rfl <| 
  mA0 rfl <| 
  mA0 rfl <| 
  mA0 rfl <| 
  mA1 rfl (Or.inl ⟨rfl, rfl⟩) <| trivial

theorem mc_286 : mAllP 286 mt_286 :=
  mA0 rfl <| 
  mA0 rfl <| 
  mA1 rfl (⟨⟨Nat.le_of_ble_eq_true rfl, Nat.le_of_ble_eq_true rfl, Nat.le_of_ble_eq_true rfl, cal_282⟩, rfl, gw_1965, gw_1967, gs_282, _, rfl, rfl⟩) <| 
  mA0 rfl <| 
  mA0 rfl <| 
  mA0 rfl <| 
  mA0 rfl <| 
  mA1 rfl (⟨⟨Nat.le_of_ble_eq_true rfl, Nat.le_of_ble_eq_true rfl, Nat.le_of_ble_eq_true rfl, cal_211⟩, gw_1672, Or.inl gw_1671⟩) <| 
  mA0 rfl <| 
  mA0 rfl <| 
  mA0 rfl <| 
  mA0 rfl <| 
  mA1 rfl (⟨⟨Nat.le_of_ble_eq_true rfl, Nat.le_of_ble_eq_true rfl, Nat.le_of_ble_eq_true rfl, cal_211⟩, gw_1672, Or.inl gw_1671⟩) <| 
  mA0 rfl <| 
  mA0 rfl <| 
  mA0 rfl <| 
  mA0 rfl <| 
  mA0 rfl <| 
  mA0 rfl <| 
  mA0 rfl <| 
  mA0 rfl <| 
  mA0 rfl <| 
  mA0 rfl <| 
  mA0 rfl <| 
  mA0 rfl <| 
  mA0 rfl <| 
  mA0 rfl <| 
  mA0 rfl <| 
  mA0 rfl <| 
  mA1 rfl (⟨⟨Nat.le_of_ble_eq_true rfl, Nat.le_of_ble_eq_true rfl, Nat.le_of_ble_eq_true rfl, cal_285⟩, rfl, gw_1977, gw_1979, gs_285, _, rfl, rfl⟩) <| 
  mA0 rfl <| 
  mA0 rfl <| 
  mA0 rfl <| 
  mA0 rfl <| 
  mA0 rfl <| 
  mA0 rfl <| 
  mA0 rfl <| 
  mA0 rfl <| 
  mA0 rfl <| 
  mA0 rfl <| 
  mA0 rfl <| 
  mA0 rfl <| 
  mA0 rfl <| 
  mA0 rfl <| 
  mA0 rfl <| 
  mA0 rfl <| 
  mA0 rfl <| 
  mA0 rfl <| 
  mA1 rfl (⟨_, rfl, Nat.le_of_ble_eq_true rfl, gw_1496, rfl⟩) <| 
  mA0 rfl <| 
  mA0 rfl <| 
  mA0 rfl <| 
  mA0 rfl <| 
  mA0 rfl <| 
  mA0 rfl <| 
  mA0 rfl <| 
  mA1 rfl (⟨⟨Nat.le_of_ble_eq_true rfl, Nat.le_of_ble_eq_true rfl, Nat.le_of_ble_eq_true rfl, cal_210⟩, rfl, gw_1674, gw_1676, gs_210, _, rfl, rfl⟩) <| 
  mA0 rfl <| 
  mA0 rfl <| 
  mA1 rfl (Or.inr ⟨by decide, rfl⟩) <| 
  mA0 rfl <| 
  mA0 rfl <| 
  mA0 rfl <| 
  mA1 rfl (⟨_, rfl, Nat.le_of_ble_eq_true rfl, gw_1495, rfl⟩) <| 
  mA0 rfl <| 
  mA0 rfl <| 
  mA0 rfl <| 
  mA0 rfl <| 
  mA1 rfl (⟨_, rfl, Nat.le_of_ble_eq_true rfl, gw_1496, rfl⟩) <| 
  mA0 rfl <| 
  mA0 rfl <| 
  mA0 rfl <| 
  mA0 rfl <| 
  mA0 rfl <| 
  mA0 rfl <| 
  mA0 rfl <| 
  mA0 rfl <| 
  mA0 rfl <| 
  mA0 rfl <| 
  mA1 rfl (⟨_, rfl, Nat.le_of_ble_eq_true rfl, gw_1496, rfl⟩) <| 
  mA0 rfl <| 
  mA0 rfl <| 
  mA0 rfl <| 
  mA0 rfl <| 
  mA0 rfl <| 
  mA0 rfl <| 
  mA0 rfl <| 
  mA1 rfl (Or.inr ⟨by decide, rfl⟩) <| trivial

theorem mc_287 : mAllP 287 mt_287 :=
  mA0 rfl <| 
  mA0 rfl <| 
  mA1 rfl (⟨⟨Nat.le_of_ble_eq_true rfl, Nat.le_of_ble_eq_true rfl, Nat.le_of_ble_eq_true rfl, cal_282⟩, rfl, gw_1965, gw_1967, gs_282, _, rfl, rfl⟩) <| 
  mA0 rfl <| 
  mA0 rfl <| 
  mA0 rfl <| 
  mA1 rfl (⟨⟨Nat.le_of_ble_eq_true rfl, Nat.le_of_ble_eq_true rfl, Nat.le_of_ble_eq_true rfl, cal_282⟩, rfl, gw_1965, gw_1967, gs_282, _, rfl, rfl⟩) <| 
  mA0 rfl <| 
  mA0 rfl <| 
  mA0 rfl <| 
  mA0 rfl <| 
  mA0 rfl <| 
  mA0 rfl <| 
  mA0 rfl <| 
  mA0 rfl <| 
  mA0 rfl <| 
  mA0 rfl <| 
  mA1 rfl (⟨_, rfl, Nat.le_of_ble_eq_true rfl, gw_1497, rfl⟩) <| 
  mA0 rfl <| 
  mA0 rfl <| 
  mA0 rfl <| 
  mA0 rfl <| 
  mA0 rfl <| 
  mA1 rfl (⟨_, rfl, Nat.le_of_ble_eq_true rfl, gw_1497, rfl⟩) <| 
  mA0 rfl <| 
  mA0 rfl <| 
  mA0 rfl <| 
  mA0 rfl <| 
  mA0 rfl <| 
  mA0 rfl <| 
  mA0 rfl <| 
  mA0 rfl <| 
  mA0 rfl <| 
  mA0 rfl <| 
  mA0 rfl <| 
  mA0 rfl <| 
  mA0 rfl <| 
  mA0 rfl <| 
  mA0 rfl <| 
  mA0 rfl <| 
  mA0 rfl <| 
  mA0 rfl <| 
  mA0 rfl <| 
  mA0 rfl <| 
  mA0 rfl <| 
  mA0 rfl <| 
  mA0 rfl <| 
  mA1 rfl (⟨⟨Nat.le_of_ble_eq_true rfl, Nat.le_of_ble_eq_true rfl, Nat.le_of_ble_eq_true rfl, cal_210⟩, rfl, gw_1674, gw_1676, gs_210, _, rfl, rfl⟩) <| 
  mA0 rfl <| 
  mA0 rfl <| 
  mA1 rfl (Or.inr ⟨by decide, rfl⟩) <| 
  mA0 rfl <| 
  mA0 rfl <| 
  mA0 rfl <| 
  mA1 rfl (⟨_, rfl, Nat.le_of_ble_eq_true rfl, gw_1498, rfl⟩) <| 
  mA0 rfl <| 
  mA0 rfl <| 
  mA0 rfl <| 
  mA0 rfl <| 
  mA0 rfl <| 
  mA0 rfl <| 
  mA0 rfl <| 
  mA0 rfl <| 
  mA0 rfl <| 
  mA0 rfl <| 
  mA0 rfl <| 
  mA0 rfl <| 
  mA1 rfl (⟨_, rfl, Nat.le_of_ble_eq_true rfl, gw_1497, rfl⟩) <| 
  mA0 rfl <| 
  mA0 rfl <| 
  mA0 rfl <| 
  mA0 rfl <| 
  mA0 rfl <| 
  mA0 rfl <| 
  mA0 rfl <| 
  mA0 rfl <| 
  mA0 rfl <| 
  mA0 rfl <| 
  mA0 rfl <| 
  mA1 rfl (⟨_, rfl, Nat.le_of_ble_eq_true rfl, gw_1498, rfl⟩) <| 
  mA0 rfl <| 
  mA0 rfl <| 
  mA0 rfl <| 
  mA0 rfl <| 
  mA0 rfl <| 
  mA0 rfl <| 
  mA0 rfl <| 
  mA0 rfl <| 
  mA0 rfl <| 
  mA0 rfl <| 
  mA1 rfl (⟨_, rfl, Nat.le_of_ble_eq_true rfl, gw_1497, rfl⟩) <| 
  mA0 rfl <| 
  mA0 rfl <| 
  mA0 rfl <| 
  mA0 rfl <| 
  mA1 rfl (Or.inr ⟨by decide, rfl⟩) <| trivial

theorem mc_288 : mAllP 288 mt_288 :=
  mA0 rfl <| 
  mA0 rfl <| 
  mA1 rfl (⟨_, rfl, Nat.le_of_ble_eq_true rfl, gw_1448, rfl, Or.inl rfl⟩) <| 
  mA0 rfl <| 
  mA1 rfl (⟨_, rfl, Nat.le_of_ble_eq_true rfl, gw_1499, rfl⟩) <| 
  mA1 rfl (Or.inl ⟨rfl, rfl⟩) <| trivial

theorem mc_289 : mAllP 289 mt_289 :=
  mA0 rfl <| 
  mA1 rfl (⟨_, rfl, Nat.le_of_ble_eq_true rfl, gw_1491, rfl⟩) <| 
  mA0 rfl <| 
  mA0 rfl <| 
  mA0 rfl <| 
  mA0 rfl <| 
  mA1 rfl (⟨_, rfl, Nat.le_of_ble_eq_true rfl, gw_1494, rfl⟩) <| 
  mA0 rfl <| 
  mA0 rfl <| 
  mA0 rfl <| 
  mA0 rfl <| 
  mA1 rfl (⟨_, rfl, Nat.le_of_ble_eq_true rfl, gw_1458, rfl⟩) <| 
  mA0 rfl <| 
  mA0 rfl <| 
  mA0 rfl <| 
  mA0 rfl <| 
  mA0 rfl <| 
  mA1 rfl (⟨_, rfl, Nat.le_of_ble_eq_true rfl, gw_1461, rfl, Or.inl rfl⟩) <| 
  mA0 rfl <| 
  mA0 rfl <| 
  mA0 rfl <| 
  mA0 rfl <| 
  mA0 rfl <| 
  mA0 rfl <| 
  mA1 rfl (⟨_, rfl, Nat.le_of_ble_eq_true rfl, gw_1460, rfl⟩) <| 
  mA0 rfl <| 
  mA1 rfl (⟨_, rfl, Nat.le_of_ble_eq_true rfl, gw_1461, rfl⟩) <| 
  mA0 rfl <| 
  mA1 rfl (⟨_, rfl, Nat.le_of_ble_eq_true rfl, gw_1457, rfl⟩) <| 
  mA0 rfl <| 
  mA0 rfl <| 
  mA0 rfl <| 
  mA0 rfl <| 
  mA0 rfl <| 
  mA0 rfl <| 
  mA0 rfl <| 
  mA0 rfl <| 
  mA0 rfl <| 
  mA1 rfl (⟨_, rfl, Nat.le_of_ble_eq_true rfl, gw_1461, rfl⟩) <| 
  mA0 rfl <| 
  mA0 rfl <| 
  mA1 rfl (⟨_, rfl, Nat.le_of_ble_eq_true rfl, gw_1461, rfl, Or.inl rfl⟩) <| 
  mA0 rfl <| 
  mA0 rfl <| 
  mA0 rfl <| 
  mA1 rfl (⟨_, rfl, Nat.le_of_ble_eq_true rfl, gw_1493, rfl⟩) <| 
  mA0 rfl <| 
  mA0 rfl <| 
  mA0 rfl <| 
  mA0 rfl <| 
  mA0 rfl <| 
  mA1 rfl (⟨_, rfl, Nat.le_of_ble_eq_true rfl, gw_1460, rfl⟩) <| 
  mA0 rfl <| 
  mA1 rfl (⟨_, rfl, Nat.le_of_ble_eq_true rfl, gw_1461, rfl⟩) <| 
  mA0 rfl <| 
  mA0 rfl <| 
  mA0 rfl <| 
  mA0 rfl <| 
  mA1 rfl (⟨_, rfl, Nat.le_of_ble_eq_true rfl, gw_1461, rfl⟩) <| 
  mA0 rfl <| 
  mA0 rfl <| 
  mA1 rfl (⟨_, rfl, Nat.le_of_ble_eq_true rfl, gw_1461, rfl, Or.inl rfl⟩) <| 
  mA0 rfl <| 
  mA0 rfl <| 
  mA0 rfl <| 
  mA0 rfl <| 
  mA0 rfl <| 
  mA0 rfl <| 
  mA1 rfl (⟨_, rfl, Nat.le_of_ble_eq_true rfl, gw_1460, rfl⟩) <| 
  mA0 rfl <| 
  mA1 rfl (⟨_, rfl, Nat.le_of_ble_eq_true rfl, gw_1461, rfl⟩) <| 
  mA0 rfl <| 
  mA1 rfl (⟨_, rfl, Nat.le_of_ble_eq_true rfl, gw_1457, rfl⟩) <| 
  mA0 rfl <| 
  mA0 rfl <| 
  mA0 rfl <| 
  mA0 rfl <| 
  mA0 rfl <| 
  mA0 rfl <| 
  mA0 rfl <| 
  mA0 rfl <| 
  mA0 rfl <| 
  mA1 rfl (⟨_, rfl, Nat.le_of_ble_eq_true rfl, gw_1461, rfl⟩) <| 
  mA0 rfl <| 
  mA0 rfl <| 
  mA1 rfl (⟨_, rfl, Nat.le_of_ble_eq_true rfl, gw_1461, rfl, Or.inl rfl⟩) <| 
  mA0 rfl <| 
  mA0 rfl <| 
  mA1 rfl (rfl) <| trivial

theorem mc_290 : mAllP 290 mt_290 :=
  mA0 rfl <| 
  mA0 rfl <| 
  mA1 rfl (⟨⟨Nat.le_of_ble_eq_true rfl, Nat.le_of_ble_eq_true rfl, Nat.le_of_ble_eq_true rfl, cal_289⟩, rfl, gw_1778, gw_1780, gs_289, _, rfl, rfl⟩) <| 
  mA0 rfl <| 
  mA0 rfl <| 
  mA0 rfl <| 
  mA1 rfl (⟨⟨Nat.le_of_ble_eq_true rfl, Nat.le_of_ble_eq_true rfl, Nat.le_of_ble_eq_true rfl, cal_265⟩, rfl, gw_1782, gw_1784, gs_265, _, rfl, rfl⟩) <| 
  mA0 rfl <| 
  mA1 rfl (⟨⟨Nat.le_of_ble_eq_true rfl, Nat.le_of_ble_eq_true rfl, Nat.le_of_ble_eq_true rfl, cal_266⟩, rfl, gw_1833, gw_1835, gs_266, _, rfl, rfl⟩) <| 
  mA0 rfl <| 
  mA0 rfl <| 
  mA1 rfl (⟨⟨Nat.le_of_ble_eq_true rfl, Nat.le_of_ble_eq_true rfl, Nat.le_of_ble_eq_true rfl, cal_289⟩, rfl, gw_1778, gw_1780, gs_289, _, rfl, rfl⟩) <| 
  mA0 rfl <| 
  mA0 rfl <| 
  mA0 rfl <| 
  mA1 rfl (⟨⟨Nat.le_of_ble_eq_true rfl, Nat.le_of_ble_eq_true rfl, Nat.le_of_ble_eq_true rfl, cal_265⟩, rfl, gw_1782, gw_1784, gs_265, _, rfl, rfl⟩) <| 
  mA0 rfl <| 
  mA1 rfl (⟨⟨Nat.le_of_ble_eq_true rfl, Nat.le_of_ble_eq_true rfl, Nat.le_of_ble_eq_true rfl, cal_267⟩, rfl, gw_1837, gw_1839, gs_267, _, rfl, rfl⟩) <| 
  mA0 rfl <| 
  mA0 rfl <| 
  mA0 rfl <| 
  mA0 rfl <| 
  mA0 rfl <| 
  mA0 rfl <| 
  mA0 rfl <| 
  mA0 rfl <| 
  mA0 rfl <| 
  mA0 rfl <| 
  mA0 rfl <| 
  mA1 rfl (Or.inr ⟨by decide, rfl⟩) <| trivial

theorem mc_291 : mAllP 291 mt_291 :=
  mA0 rfl <| 
  mA1 rfl (⟨_, rfl, Nat.le_of_ble_eq_true rfl, gw_1492, rfl⟩) <| 
  mA0 rfl <| 
  mA0 rfl <| 
  mA0 rfl <| 
  mA0 rfl <| 
  mA0 rfl <| 
  mA0 rfl <| 
  mA0 rfl <| 
  mA0 rfl <| 
  mA0 rfl <| 
  mA0 rfl <| 
  mA0 rfl <| 
  mA1 rfl (Or.inr ⟨by decide, rfl⟩) <| trivial

theorem mc_292 : mAllP 292 mt_292 :=
  mA0 rfl <| 
  mA1 rfl (⟨_, rfl, Nat.le_of_ble_eq_true rfl, gw_1490, rfl⟩) <| 
  mA0 rfl <| 
  mA0 rfl <| 
  mA0 rfl <| 
  mA0 rfl <| 
  mA0 rfl <| 
  mA0 rfl <| 
  mA0 rfl <| 
  mA1 rfl (⟨_, rfl, Nat.le_of_ble_eq_true rfl, gw_1490, rfl⟩) <| 
  mA0 rfl <| 
  mA0 rfl <| 
  mA1 rfl (Or.inl ⟨rfl, rfl⟩) <| trivial

theorem mc_293 : mAllP 293 mt_293 :=
  mA0 rfl <| 
  mA0 rfl <| 
  mA1 rfl (⟨⟨Nat.le_of_ble_eq_true rfl, Nat.le_of_ble_eq_true rfl, Nat.le_of_ble_eq_true rfl, cal_292⟩, rfl, gw_1770, gw_1772, gs_292, _, rfl, rfl⟩) <| 
  mA0 rfl <| 
  mA0 rfl <| 
  mA0 rfl <| 
  mA1 rfl (⟨⟨Nat.le_of_ble_eq_true rfl, Nat.le_of_ble_eq_true rfl, Nat.le_of_ble_eq_true rfl, cal_292⟩, rfl, gw_1770, gw_1772, gs_292, _, rfl, rfl⟩) <| 
  mA0 rfl <| 
  mA0 rfl <| 
  mA0 rfl <| 
  mA0 rfl <| 
  mA0 rfl <| 
  mA0 rfl <| 
  mA0 rfl <| 
  mA0 rfl <| 
  mA1 rfl (⟨⟨Nat.le_of_ble_eq_true rfl, Nat.le_of_ble_eq_true rfl, Nat.le_of_ble_eq_true rfl, cal_290⟩, rfl, gw_1774, gw_1776, gs_290, _, rfl, rfl⟩) <| 
  mA0 rfl <| 
  mA0 rfl <| 
  mA0 rfl <| 
  mA0 rfl <| 
  mA0 rfl <| 
  mA0 rfl <| 
  mA0 rfl <| 
  mA0 rfl <| 
  mA0 rfl <| 
  mA0 rfl <| 
  mA0 rfl <| 
  mA1 rfl (⟨⟨Nat.le_of_ble_eq_true rfl, Nat.le_of_ble_eq_true rfl, Nat.le_of_ble_eq_true rfl, cal_290⟩, rfl, gw_1774, gw_1776, gs_290, _, rfl, rfl⟩) <| 
  mA0 rfl <| 
  mA0 rfl <| 
  mA0 rfl <| 
  mA0 rfl <| 
  mA1 rfl (Or.inr ⟨by decide, rfl⟩) <| trivial

theorem mc_294 : mAllP 294 mt_294 :=
  mA0 rfl <| 
  mA0 rfl <| 
  mA1 rfl (⟨_, rfl, Nat.le_of_ble_eq_true rfl, gw_1501, rfl, Or.inl rfl⟩) <| 
  mA0 rfl <| 
  mA0 rfl <| 
  mA0 rfl <| 
  mA0 rfl <| 
  mA1 rfl (⟨_, rfl, Nat.le_of_ble_eq_true rfl, gw_1499, rfl⟩) <| 
  mA0 rfl <| 
  mA0 rfl <| 
  mA1 rfl (⟨_, rfl, Nat.le_of_ble_eq_true rfl, gw_1501, rfl⟩) <| 
  mA0 rfl <| 
  mA0 rfl <| 
  mA0 rfl <| 
  mA0 rfl <| 
  mA1 rfl (⟨⟨Nat.le_of_ble_eq_true rfl, Nat.le_of_ble_eq_true rfl, Nat.le_of_ble_eq_true rfl, cal_291⟩, rfl, gw_1762, gw_1764, gs_291, _, rfl, rfl⟩) <| 
  mA0 rfl <| 
  mA0 rfl <| 
  mA0 rfl <| 
  mA0 rfl <| 
  mA0 rfl <| 
  mA0 rfl <| 
  mA0 rfl <| 
  mA1 rfl (⟨_, rfl, Nat.le_of_ble_eq_true rfl, gw_1500, rfl⟩) <| 
  mA0 rfl <| 
  mA0 rfl <| 
  mA0 rfl <| 
  mA0 rfl <| 
  mA1 rfl (⟨⟨Nat.le_of_ble_eq_true rfl, Nat.le_of_ble_eq_true rfl, Nat.le_of_ble_eq_true rfl, cal_293⟩, rfl, gw_1766, gw_1768, gs_293, _, rfl, rfl⟩) <| 
  mA0 rfl <| 
  mA0 rfl <| 
  mA1 rfl (⟨_, rfl, Nat.le_of_ble_eq_true rfl, gw_1500, rfl⟩) <| 
  mA0 rfl <| 
  mA0 rfl <| 
  mA1 rfl (⟨_, rfl, Nat.le_of_ble_eq_true rfl, gw_1500, rfl⟩) <| 
  mA0 rfl <| 
  mA0 rfl <| 
  mA0 rfl <| 
  mA0 rfl <| 
  mA0 rfl <| 
  mA0 rfl <| 
  mA0 rfl <| 
  mA0 rfl <| 
  mA0 rfl <| 
  mA0 rfl <| 
  mA1 rfl (⟨⟨Nat.le_of_ble_eq_true rfl, Nat.le_of_ble_eq_true rfl, Nat.le_of_ble_eq_true rfl, cal_291⟩, rfl, gw_1762, gw_1764, gs_291, _, rfl, rfl⟩) <| 
  mA0 rfl <| 
  mA0 rfl <| 
  mA1 rfl (⟨_, rfl, Nat.le_of_ble_eq_true rfl, gw_1500, rfl⟩) <| 
  mA0 rfl <| 
  mA0 rfl <| 
  mA0 rfl <| 
  mA0 rfl <| 
  mA0 rfl <| 
  mA1 rfl (⟨_, rfl, Nat.le_of_ble_eq_true rfl, gw_1501, rfl⟩) <| 
  mA0 rfl <| 
  mA0 rfl <| 
  mA1 rfl (⟨_, rfl, Nat.le_of_ble_eq_true rfl, gw_1501, rfl, Or.inl rfl⟩) <| 
  mA0 rfl <| 
  mA0 rfl <| 
  mA1 rfl (rfl) <| trivial

theorem mc_295 : mAllP 295 mt_295 :=
  mA0 rfl <| 
  mA0 rfl <| 
  mA1 rfl (⟨⟨Nat.le_of_ble_eq_true rfl, Nat.le_of_ble_eq_true rfl, Nat.le_of_ble_eq_true rfl, cal_294⟩, rfl, gw_1758, gw_1760, gs_294, _, rfl, rfl⟩) <| 
  mA0 rfl <| 
  mA0 rfl <| 
  mA0 rfl <| 
  mA0 rfl <| 
  mA1 rfl (⟨_, rfl, Nat.le_of_ble_eq_true rfl, gw_1501, rfl⟩) <| 
  mA0 rfl <| 
  mA0 rfl <| 
  mA1 rfl (⟨_, rfl, Nat.le_of_ble_eq_true rfl, gw_1502, rfl⟩) <| 
  mA0 rfl <| 
  mA0 rfl <| 
  mA0 rfl <| 
  mA0 rfl <| 
  mA0 rfl <| 
  mA0 rfl <| 
  mA1 rfl (⟨_, rfl, Nat.le_of_ble_eq_true rfl, gw_1500, rfl⟩) <| 
  mA0 rfl <| 
  mA0 rfl <| 
  mA0 rfl <| 
  mA0 rfl <| 
  mA0 rfl <| 
  mA0 rfl <| 
  mA1 rfl (⟨_, rfl, Nat.le_of_ble_eq_true rfl, gw_1503, rfl⟩) <| 
  mA0 rfl <| 
  mA0 rfl <| 
  mA1 rfl (⟨_, rfl, Nat.le_of_ble_eq_true rfl, gw_1501, rfl⟩) <| 
  mA0 rfl <| 
  mA1 rfl (rfl) <| trivial

theorem mc_296 : mAllP 296 mt_296 :=
  mA0 rfl <| 
  mA0 rfl <| 
  mA0 rfl <| 
  mA1 rfl (⟨⟨Nat.le_of_ble_eq_true rfl, Nat.le_of_ble_eq_true rfl, Nat.le_of_ble_eq_true rfl, cal_211⟩, gw_1672, Or.inl gw_1671⟩) <| 
  mA1 rfl (Or.inr ⟨by decide, rfl⟩) <| trivial

theorem mc_297 : mAllP 297 mt_297 :=
  mA0 rfl <| 
  mA1 rfl (⟨⟨Nat.le_of_ble_eq_true rfl, Nat.le_of_ble_eq_true rfl, Nat.le_of_ble_eq_true rfl, cal_296⟩, gw_1994, Or.inl gw_1993⟩) <| 
  mA0 rfl <| 
  mA0 rfl <| 
  mA0 rfl <| 
  mA0 rfl <| 
  mA0 rfl <| 
  mA1 rfl (⟨⟨Nat.le_of_ble_eq_true rfl, Nat.le_of_ble_eq_true rfl, Nat.le_of_ble_eq_true rfl, cal_294⟩, rfl, gw_1758, gw_1760, gs_294, _, rfl, rfl⟩) <| 
  mA0 rfl <| 
  mA0 rfl <| 
  mA0 rfl <| 
  mA0 rfl <| 
  mA0 rfl <| 
  mA0 rfl <| 
  mA1 rfl (⟨_, rfl, Nat.le_of_ble_eq_true rfl, gw_1501, rfl⟩) <| 
  mA0 rfl <| 
  mA0 rfl <| 
  mA1 rfl (⟨⟨Nat.le_of_ble_eq_true rfl, Nat.le_of_ble_eq_true rfl, Nat.le_of_ble_eq_true rfl, cal_211⟩, gw_1672, Or.inl gw_1671⟩) <| 
  mA0 rfl <| 
  mA0 rfl <| 
  mA0 rfl <| 
  mA0 rfl <| 
  mA1 rfl (⟨⟨Nat.le_of_ble_eq_true rfl, Nat.le_of_ble_eq_true rfl, Nat.le_of_ble_eq_true rfl, cal_210⟩, rfl, gw_1674, gw_1676, gs_210, _, rfl, rfl⟩) <| 
  mA0 rfl <| 
  mA0 rfl <| 
  mA1 rfl (⟨_, rfl, Nat.le_of_ble_eq_true rfl, gw_1500, rfl⟩) <| 
  mA0 rfl <| 
  mA0 rfl <| 
  mA0 rfl <| 
  mA0 rfl <| 
  mA1 rfl (Or.inl ⟨rfl, rfl⟩) <| trivial

theorem mc_298 : mAllP 298 mt_298 :=
  mA0 rfl <| 
  mA0 rfl <| 
  mA1 rfl (⟨⟨Nat.le_of_ble_eq_true rfl, Nat.le_of_ble_eq_true rfl, Nat.le_of_ble_eq_true rfl, cal_296⟩, gw_1994, Or.inl gw_1993⟩) <| 
  mA0 rfl <| 
  mA0 rfl <| 
  mA0 rfl <| 
  mA0 rfl <| 
  mA1 rfl (⟨⟨Nat.le_of_ble_eq_true rfl, Nat.le_of_ble_eq_true rfl, Nat.le_of_ble_eq_true rfl, cal_210⟩, rfl, gw_1674, gw_1676, gs_210, _, rfl, rfl⟩) <| 
  mA0 rfl <| 
  mA0 rfl <| 
  mA1 rfl (Or.inl ⟨rfl, rfl⟩) <| 
  mA0 rfl <| 
  mA0 rfl <| 
  mA1 rfl (⟨⟨Nat.le_of_ble_eq_true rfl, Nat.le_of_ble_eq_true rfl, Nat.le_of_ble_eq_true rfl, cal_294⟩, rfl, gw_1758, gw_1760, gs_294, _, rfl, rfl⟩) <| 
  mA0 rfl <| 
  mA0 rfl <| 
  mA0 rfl <| 
  mA0 rfl <| 
  mA0 rfl <| 
  mA0 rfl <| 
  mA1 rfl (⟨_, rfl, Nat.le_of_ble_eq_true rfl, gw_1503, rfl⟩) <| 
  mA0 rfl <| 
  mA0 rfl <| 
  mA0 rfl <| 
  mA0 rfl <| 
  mA0 rfl <| 
  mA1 rfl (⟨_, rfl, Nat.le_of_ble_eq_true rfl, gw_1502, rfl⟩) <| 
  mA0 rfl <| 
  mA0 rfl <| 
  mA0 rfl <| 
  mA0 rfl <| 
  mA0 rfl <| 
  mA0 rfl <| 
  mA0 rfl <| 
  mA1 rfl (⟨_, rfl, Nat.le_of_ble_eq_true rfl, gw_1500, rfl⟩) <| 
  mA0 rfl <| 
  mA0 rfl <| 
  mA0 rfl <| 
  mA0 rfl <| 
  mA0 rfl <| 
  mA0 rfl <| 
  mA0 rfl <| 
  mA0 rfl <| 
  mA0 rfl <| 
  mA0 rfl <| 
  mA0 rfl <| 
  mA1 rfl (Or.inl ⟨rfl, rfl⟩) <| trivial

theorem mc_299_0 : mAllP 299 mt_299_0 :=
  mA0 rfl <| 
  mA0 rfl <| 
  mA1 rfl (⟨⟨Nat.le_of_ble_eq_true rfl, Nat.le_of_ble_eq_true rfl, Nat.le_of_ble_eq_true rfl, cal_289⟩, rfl, gw_1778, gw_1780, gs_289, _, rfl, rfl⟩) <| 
  mA0 rfl <| 
  mA0 rfl <| 
  mA1 rfl (⟨⟨Nat.le_of_ble_eq_true rfl, Nat.le_of_ble_eq_true rfl, Nat.le_of_ble_eq_true rfl, cal_260⟩, rfl, gw_1786, gw_1788, gs_260, _, rfl, rfl⟩) <| 
  mA0 rfl <| 
  mA0 rfl <| 
  mA0 rfl <| 
  mA1 rfl (⟨⟨Nat.le_of_ble_eq_true rfl, Nat.le_of_ble_eq_true rfl, Nat.le_of_ble_eq_true rfl, cal_262⟩, rfl, gw_1817, gw_1819, gs_262, _, rfl, rfl⟩) <| 
  mA0 rfl <| 
  mA0 rfl <| 
  mA0 rfl <| 
  mA0 rfl <| 
  mA0 rfl <| 
  mA0 rfl <| 
  mA0 rfl <| 
  mA0 rfl <| 
  mA0 rfl <| 
  mA0 rfl <| 
  mA1 rfl (⟨_, rfl, Nat.le_of_ble_eq_true rfl, gw_1484, rfl⟩) <| 
  mA0 rfl <| 
  mA0 rfl <| 
  mA1 rfl (⟨_, rfl, Nat.le_of_ble_eq_true rfl, gw_1489, rfl⟩) <| 
  mA0 rfl <| 
  mA0 rfl <| 
  mA0 rfl <| 
  mA0 rfl <| 
  mA0 rfl <| 
  mA0 rfl <| 
  mA0 rfl <| 
  mA0 rfl <| 
  mA1 rfl (⟨⟨Nat.le_of_ble_eq_true rfl, Nat.le_of_ble_eq_true rfl, Nat.le_of_ble_eq_true rfl, cal_232⟩, rfl, gw_1747, gw_1749, gs_232, _, rfl, rfl⟩) <| 
  mA0 rfl <| 
  mA0 rfl <| 
  mA0 rfl <| 
  mA0 rfl <| 
  mA0 rfl <| 
  mA0 rfl <| 
  mA0 rfl <| 
  mA0 rfl <| 
  mA0 rfl <| 
  mA1 rfl (⟨_, rfl, Nat.le_of_ble_eq_true rfl, gw_1465, rfl⟩) <| 
  mA0 rfl <| 
  mA0 rfl <| 
  mA0 rfl <| 
  mA0 rfl <| 
  mA0 rfl <| 
  mA0 rfl <| 
  mA0 rfl <| 
  mA0 rfl <| 
  mA0 rfl <| 
  mA0 rfl <| 
  mA0 rfl <| 
  mA0 rfl <| 
  mA1 rfl (⟨_, rfl, Nat.le_of_ble_eq_true rfl, gw_1483, rfl⟩) <| 
  mA0 rfl <| 
  mA0 rfl <| 
  mA0 rfl <| 
  mA0 rfl <| 
  mA0 rfl <| 
  mA0 rfl <| 
  mA0 rfl <| 
  mA0 rfl <| 
  mA0 rfl <| 
  mA0 rfl <| 
  mA0 rfl <| 
  mA0 rfl <| 
  mA0 rfl <| 
  mA0 rfl <| 
  mA0 rfl <| 
  mA0 rfl <| 
  mA0 rfl <| 
  mA0 rfl <| 
  mA0 rfl <| 
  mA0 rfl <| 
  mA0 rfl <| 
  mA0 rfl <| 
  mA0 rfl <| 
  mA0 rfl <| 
  mA0 rfl <| 
  mA0 rfl <| 
  mA0 rfl <| 
  mA0 rfl <| 
  mA1 rfl (Or.inl ⟨rfl, rfl⟩) <| 
  mA0 rfl <| 
  mA0 rfl <| 
  mA0 rfl <| 
  mA1 rfl (⟨_, rfl, Nat.le_of_ble_eq_true rfl, gw_1461, rfl⟩) <| 
  mA0 rfl <| 
  mA0 rfl <| 
  mA0 rfl <| 
  mA0 rfl <| 
  mA0 rfl <| 
  mA0 rfl <| 
  mA1 rfl (⟨_, rfl, Nat.le_of_ble_eq_true rfl, gw_1460, rfl⟩) <| 
  mA0 rfl <| 
  mA0 rfl <| 
  mA1 rfl (⟨⟨Nat.le_of_ble_eq_true rfl, Nat.le_of_ble_eq_true rfl, Nat.le_of_ble_eq_true rfl, cal_213⟩, gw_1683, Or.inl gw_1682⟩) <| 
  mA0 rfl <| 
  mA0 rfl <| 
  mA1 rfl (⟨_, rfl, Nat.le_of_ble_eq_true rfl, gw_1460, rfl⟩) <| 
  mA0 rfl <| 
  mA0 rfl <| 
  mA0 rfl <| 
  mA0 rfl <| 
  mA0 rfl <| 
  mA0 rfl <| 
  mA0 rfl <| 
  mA0 rfl <| 
  mA0 rfl <| 
  mA0 rfl <| 
  mA0 rfl <| 
  mA1 rfl (⟨⟨Nat.le_of_ble_eq_true rfl, Nat.le_of_ble_eq_true rfl, Nat.le_of_ble_eq_true rfl, cal_216⟩, gw_2013, Or.inl gw_2012⟩) <| 
  mA0 rfl <| 
  mA1 rfl (⟨⟨Nat.le_of_ble_eq_true rfl, Nat.le_of_ble_eq_true rfl, Nat.le_of_ble_eq_true rfl, cal_216⟩, gw_2013, Or.inl gw_2012⟩) <| 
  mA0 rfl <| 
  mA0 rfl <| 
  mA0 rfl <| 
  mA0 rfl <| trivial

theorem mc_299_1 : mAllP 299 mt_299_1 :=
  mA0 rfl <| 
  mA0 rfl <| 
  mA1 rfl (Or.inl ⟨rfl, rfl⟩) <| trivial

theorem mc_300 : mAllP 300 mt_300 :=
  mA0 rfl <| 
  mA1 rfl (⟨⟨Nat.le_of_ble_eq_true rfl, Nat.le_of_ble_eq_true rfl, Nat.le_of_ble_eq_true rfl, cal_296⟩, gw_1994, Or.inl gw_1993⟩) <| 
  mA0 rfl <| 
  mA0 rfl <| 
  mA0 rfl <| 
  mA1 rfl (⟨⟨Nat.le_of_ble_eq_true rfl, Nat.le_of_ble_eq_true rfl, Nat.le_of_ble_eq_true rfl, cal_282⟩, rfl, gw_1965, gw_1967, gs_282, _, rfl, rfl⟩) <| 
  mA0 rfl <| 
  mA0 rfl <| 
  mA0 rfl <| 
  mA0 rfl <| 
  mA1 rfl (⟨⟨Nat.le_of_ble_eq_true rfl, Nat.le_of_ble_eq_true rfl, Nat.le_of_ble_eq_true rfl, cal_291⟩, rfl, gw_1762, gw_1764, gs_291, _, rfl, rfl⟩) <| 
  mA0 rfl <| 
  mA0 rfl <| 
  mA0 rfl <| 
  mA0 rfl <| 
  mA1 rfl (Or.inr ⟨by decide, rfl⟩) <| trivial

theorem mc_301 : mAllP 301 mt_301 :=
  mA0 rfl <| 
  mA0 rfl <| 
  mA0 rfl <| 
  mA0 rfl <| 
  mA1 rfl (⟨⟨Nat.le_of_ble_eq_true rfl, Nat.le_of_ble_eq_true rfl, Nat.le_of_ble_eq_true rfl, cal_300⟩, rfl, gw_2004, gw_2006, gs_300, _, rfl, rfl⟩) <| 
  mA0 rfl <| 
  mA0 rfl <| 
  mA0 rfl <| 
  mA0 rfl <| 
  mA1 rfl (⟨⟨Nat.le_of_ble_eq_true rfl, Nat.le_of_ble_eq_true rfl, Nat.le_of_ble_eq_true rfl, cal_210⟩, rfl, gw_1674, gw_1676, gs_210, _, rfl, rfl⟩) <| 
  mA0 rfl <| 
  mA0 rfl <| 
  mA0 rfl <| 
  mA0 rfl <| 
  mA0 rfl <| 
  mA1 rfl (⟨⟨Nat.le_of_ble_eq_true rfl, Nat.le_of_ble_eq_true rfl, Nat.le_of_ble_eq_true rfl, cal_292⟩, rfl, gw_1770, gw_1772, gs_292, _, rfl, rfl⟩) <| 
  mA1 rfl (⟨⟨Nat.le_of_ble_eq_true rfl, Nat.le_of_ble_eq_true rfl, Nat.le_of_ble_eq_true rfl, cal_299⟩, rfl, gw_2008, gw_2010, gs_299, _, rfl, rfl⟩) <| 
  mA0 rfl <| 
  mA0 rfl <| 
  mA1 rfl (Or.inl ⟨rfl, rfl⟩) <| trivial

theorem mc_302 : mAllP 302 mt_302 :=
  mA0 rfl <| 
  mA0 rfl <| 
  mA0 rfl <| 
  mA0 rfl <| 
  mA0 rfl <| 
  mA0 rfl <| 
  mA0 rfl <| 
  mA0 rfl <| 
  mA0 rfl <| 
  mA0 rfl <| 
  mA0 rfl <| 
  mA1 rfl (⟨_, rfl, Nat.le_of_ble_eq_true rfl, gw_1496, rfl⟩) <| 
  mA0 rfl <| 
  mA0 rfl <| 
  mA0 rfl <| 
  mA0 rfl <| 
  mA0 rfl <| 
  mA1 rfl (⟨_, rfl, Nat.le_of_ble_eq_true rfl, gw_1495, rfl⟩) <| 
  mA0 rfl <| 
  mA0 rfl <| 
  mA0 rfl <| 
  mA0 rfl <| 
  mA0 rfl <| 
  mA0 rfl <| 
  mA1 rfl (⟨_, rfl, Nat.le_of_ble_eq_true rfl, gw_1495, rfl⟩) <| 
  mA0 rfl <| 
  mA0 rfl <| 
  mA0 rfl <| 
  mA0 rfl <| 
  mA0 rfl <| 
  mA0 rfl <| 
  mA0 rfl <| 
  mA0 rfl <| 
  mA0 rfl <| 
  mA0 rfl <| 
  mA0 rfl <| 
  mA0 rfl <| 
  mA0 rfl <| 
  mA0 rfl <| 
  mA0 rfl <| 
  mA0 rfl <| 
  mA0 rfl <| 
  mA0 rfl <| 
  mA0 rfl <| 
  mA0 rfl <| 
  mA0 rfl <| 
  mA0 rfl <| 
  mA1 rfl (Or.inl ⟨rfl, rfl⟩) <| trivial

theorem mc_303 : mAllP 303 mt_303 :=
  mA0 rfl <| 
  mA1 rfl (⟨_, rfl, Nat.le_of_ble_eq_true rfl, gw_1504, rfl⟩) <| 
  mA0 rfl <| 
  mA1 rfl (⟨_, rfl, Nat.le_of_ble_eq_true rfl, gw_1505, rfl⟩) <| 
  mA1 rfl (gw_1889) <| 
  mA0 rfl <| 
  mA0 rfl <| 
  mA0 rfl <| 
  mA0 rfl <| 
  mA0 rfl <| 
  mA0 rfl <| 
  mA0 rfl <| 
  mA0 rfl <| 
  mA0 rfl <| 
  mA0 rfl <| 
  mA0 rfl <| 
  mA1 rfl (⟨_, rfl, Nat.le_of_ble_eq_true rfl, gw_1505, rfl⟩) <| 
  mA0 rfl <| 
  mA0 rfl <| 
  mA1 rfl (⟨_, rfl, Nat.le_of_ble_eq_true rfl, gw_1505, rfl, Or.inl rfl⟩) <| 
  mA1 rfl (rfl) <| trivial

theorem mc_304 : mAllP 304 mt_304 :=
  mA0 rfl <| 
  mA0 rfl <| 
  mA0 rfl <| 
  mA0 rfl <| 
  mA1 rfl (⟨_, rfl, Nat.le_of_ble_eq_true rfl, gw_1505, rfl⟩) <| 
  mA0 rfl <| 
  mA0 rfl <| 
  mA1 rfl (⟨_, rfl, Nat.le_of_ble_eq_true rfl, gw_1504, rfl⟩) <| 
  mA0 rfl <| 
  mA0 rfl <| 
  mA0 rfl <| 
  mA0 rfl <| 
  mA0 rfl <| 
  mA0 rfl <| 
  mA0 rfl <| 
  mA0 rfl <| 
  mA0 rfl <| 
  mA0 rfl <| 
  mA0 rfl <| 
  mA0 rfl <| 
  mA0 rfl <| 
  mA1 rfl (⟨_, rfl, Nat.le_of_ble_eq_true rfl, gw_1505, rfl⟩) <| 
  mA0 rfl <| 
  mA0 rfl <| 
  mA1 rfl (⟨_, rfl, Nat.le_of_ble_eq_true rfl, gw_1504, rfl⟩) <| 
  mA0 rfl <| 
  mA0 rfl <| 
  mA0 rfl <| 
  mA0 rfl <| 
  mA0 rfl <| 
  mA0 rfl <| 
  mA0 rfl <| 
  mA0 rfl <| 
  mA0 rfl <| 
  mA0 rfl <| 
  mA0 rfl <| 
  mA0 rfl <| 
  mA0 rfl <| 
  mA0 rfl <| 
  mA0 rfl <| 
  mA0 rfl <| 
  mA0 rfl <| 
  mA0 rfl <| 
  mA1 rfl (⟨_, rfl, Nat.le_of_ble_eq_true rfl, gw_1504, rfl⟩) <| 
  mA0 rfl <| 
  mA1 rfl (gw_2035) <| 
  mA0 rfl <| 
  mA0 rfl <| 
  mA0 rfl <| 
  mA0 rfl <| 
  mA0 rfl <| 
  mA1 rfl (⟨_, rfl, Nat.le_of_ble_eq_true rfl, gw_1504, rfl⟩) <| 
  mA0 rfl <| 
  mA0 rfl <| 
  mA0 rfl <| 
  mA0 rfl <| 
  mA0 rfl <| 
  mA0 rfl <| 
  mA0 rfl <| 
  mA0 rfl <| 
  mA0 rfl <| 
  mA0 rfl <| 
  mA0 rfl <| 
  mA0 rfl <| 
  mA0 rfl <| 
  mA0 rfl <| 
  mA0 rfl <| 
  mA0 rfl <| 
  mA1 rfl (⟨_, rfl, Nat.le_of_ble_eq_true rfl, gw_1505, rfl⟩) <| 
  mA0 rfl <| 
  mA0 rfl <| 
  mA1 rfl (⟨_, rfl, Nat.le_of_ble_eq_true rfl, gw_1505, rfl, Or.inl rfl⟩) <| 
  mA0 rfl <| 
  mA0 rfl <| 
  mA0 rfl <| 
  mA0 rfl <| 
  mA0 rfl <| 
  mA0 rfl <| 
  mA1 rfl (⟨_, rfl, Nat.le_of_ble_eq_true rfl, gw_1505, rfl⟩) <| 
  mA0 rfl <| 
  mA0 rfl <| 
  mA1 rfl (⟨_, rfl, Nat.le_of_ble_eq_true rfl, gw_1504, rfl⟩) <| 
  mA0 rfl <| 
  mA0 rfl <| 
  mA1 rfl (⟨_, rfl, Nat.le_of_ble_eq_true rfl, gw_1504, rfl⟩) <| 
  mA0 rfl <| 
  mA0 rfl <| 
  mA0 rfl <| 
  mA0 rfl <| 
  mA0 rfl <| 
  mA0 rfl <| 
  mA0 rfl <| 
  mA0 rfl <| 
  mA0 rfl <| 
  mA1 rfl (rfl) <| trivial

theorem mc_305 : mAllP 305 mt_305 :=
  mA0 rfl <| 
  mA0 rfl <| 
  mA1 rfl (⟨_, rfl, Nat.le_of_ble_eq_true rfl, gw_1505, rfl, Or.inl rfl⟩) <| 
  mA0 rfl <| 
  mA0 rfl <| 
  mA0 rfl <| 
  mA0 rfl <| 
  mA0 rfl <| 
  mA0 rfl <| 
  mA0 rfl <| 
  mA0 rfl <| 
  mA0 rfl <| 
  mA0 rfl <| 
  mA0 rfl <| 
  mA0 rfl <| 
  mA0 rfl <| 
  mA0 rfl <| 
  mA0 rfl <| 
  mA0 rfl <| 
  mA0 rfl <| 
  mA1 rfl (⟨_, rfl, Nat.le_of_ble_eq_true rfl, gw_1505, rfl⟩) <| 
  mA0 rfl <| 
  mA0 rfl <| 
  mA0 rfl <| 
  mA0 rfl <| 
  mA0 rfl <| 
  mA1 rfl (⟨⟨Nat.le_of_ble_eq_true rfl, Nat.le_of_ble_eq_true rfl, Nat.le_of_ble_eq_true rfl, cal_302⟩, rfl, gw_2023, gw_2025, gs_302, _, rfl, rfl⟩) <| 
  mA0 rfl <| 
  mA0 rfl <| 
  mA0 rfl <| 
  mA0 rfl <| 
  mA0 rfl <| 
  mA0 rfl <| 
  mA0 rfl <| 
  mA0 rfl <| 
  mA0 rfl <| 
  mA0 rfl <| 
  mA1 rfl (⟨⟨Nat.le_of_ble_eq_true rfl, Nat.le_of_ble_eq_true rfl, Nat.le_of_ble_eq_true rfl, cal_302⟩, rfl, gw_2023, gw_2025, gs_302, _, rfl, rfl⟩) <| 
  mA0 rfl <| 
  mA0 rfl <| 
  mA0 rfl <| 
  mA0 rfl <| 
  mA0 rfl <| 
  mA0 rfl <| 
  mA0 rfl <| 
  mA0 rfl <| 
  mA0 rfl <| 
  mA0 rfl <| 
  mA0 rfl <| 
  mA0 rfl <| 
  mA1 rfl (⟨⟨Nat.le_of_ble_eq_true rfl, Nat.le_of_ble_eq_true rfl, Nat.le_of_ble_eq_true rfl, cal_302⟩, rfl, gw_2023, gw_2025, gs_302, _, rfl, rfl⟩) <| 
  mA0 rfl <| 
  mA0 rfl <| 
  mA0 rfl <| 
  mA0 rfl <| 
  mA0 rfl <| 
  mA0 rfl <| 
  mA1 rfl (⟨⟨Nat.le_of_ble_eq_true rfl, Nat.le_of_ble_eq_true rfl, Nat.le_of_ble_eq_true rfl, cal_303⟩, rfl, gw_2027, gw_2029, gs_303, _, rfl, rfl⟩) <| 
  mA0 rfl <| 
  mA0 rfl <| 
  mA0 rfl <| 
  mA0 rfl <| 
  mA0 rfl <| 
  mA0 rfl <| 
  mA0 rfl <| 
  mA1 rfl (⟨⟨Nat.le_of_ble_eq_true rfl, Nat.le_of_ble_eq_true rfl, Nat.le_of_ble_eq_true rfl, cal_304⟩, rfl, gw_2031, gw_2033, gs_304, _, rfl, rfl⟩) <| 
  mA0 rfl <| 
  mA0 rfl <| 
  mA1 rfl (rfl) <| trivial

theorem mc_306 : mAllP 306 mt_306 :=
  mA0 rfl <| 
  mA0 rfl <| 
  mA0 rfl <| 
  mA1 rfl (⟨⟨Nat.le_of_ble_eq_true rfl, Nat.le_of_ble_eq_true rfl, Nat.le_of_ble_eq_true rfl, cal_282⟩, rfl, gw_1965, gw_1967, gs_282, _, rfl, rfl⟩) <| 
  mA0 rfl <| 
  mA0 rfl <| 
  mA0 rfl <| 
  mA0 rfl <| 
  mA0 rfl <| 
  mA0 rfl <| 
  mA1 rfl (⟨⟨Nat.le_of_ble_eq_true rfl, Nat.le_of_ble_eq_true rfl, Nat.le_of_ble_eq_true rfl, cal_210⟩, rfl, gw_1674, gw_1676, gs_210, _, rfl, rfl⟩) <| 
  mA0 rfl <| 
  mA0 rfl <| 
  mA1 rfl (Or.inl ⟨rfl, rfl⟩) <| 
  mA0 rfl <| 
  mA0 rfl <| 
  mA1 rfl (⟨⟨Nat.le_of_ble_eq_true rfl, Nat.le_of_ble_eq_true rfl, Nat.le_of_ble_eq_true rfl, cal_305⟩, rfl, gw_2019, gw_2021, gs_305, _, rfl, rfl⟩) <| 
  mA0 rfl <| 
  mA0 rfl <| 
  mA1 rfl (⟨_, rfl, Nat.le_of_ble_eq_true rfl, gw_1505, rfl⟩) <| 
  mA0 rfl <| 
  mA0 rfl <| 
  mA1 rfl (⟨_, rfl, Nat.le_of_ble_eq_true rfl, gw_1504, rfl⟩) <| 
  mA0 rfl <| 
  mA0 rfl <| 
  mA0 rfl <| 
  mA0 rfl <| 
  mA1 rfl (Or.inl ⟨rfl, rfl⟩) <| trivial

theorem mc_307 : mAllP 307 mt_307 :=
  mA0 rfl <| 
  mA0 rfl <| 
  mA0 rfl <| 
  mA0 rfl <| 
  mA0 rfl <| 
  mA0 rfl <| 
  mA1 rfl (⟨_, rfl, Nat.le_of_ble_eq_true rfl, gw_1499, rfl⟩) <| 
  mA0 rfl <| 
  mA0 rfl <| 
  mA0 rfl <| 
  mA0 rfl <| 
  mA0 rfl <| 
  mA0 rfl <| 
  mA0 rfl <| 
  mA1 rfl (⟨_, rfl, Nat.le_of_ble_eq_true rfl, gw_1490, rfl⟩) <| 
  mA0 rfl <| 
  mA0 rfl <| 
  mA0 rfl <| 
  mA0 rfl <| 
  mA0 rfl <| 
  mA1 rfl (⟨_, rfl, Nat.le_of_ble_eq_true rfl, gw_1496, rfl⟩) <| 
  mA0 rfl <| 
  mA0 rfl <| 
  mA0 rfl <| 
  mA0 rfl <| 
  mA0 rfl <| 
  mA0 rfl <| 
  mA0 rfl <| 
  mA0 rfl <| 
  mA0 rfl <| 
  mA0 rfl <| 
  mA1 rfl (Or.inr ⟨by decide, rfl⟩) <| trivial

theorem mc_308 : mAllP 308 mt_308 :=
  mA0 rfl <| 
  mA0 rfl <| 
  mA0 rfl <| 
  mA0 rfl <| 
  mA0 rfl <| 
  mA0 rfl <| 
  mA1 rfl (⟨_, rfl, Nat.le_of_ble_eq_true rfl, gw_1499, rfl⟩) <| 
  mA0 rfl <| 
  mA0 rfl <| 
  mA0 rfl <| 
  mA0 rfl <| 
  mA0 rfl <| 
  mA0 rfl <| 
  mA1 rfl (⟨⟨Nat.le_of_ble_eq_true rfl, Nat.le_of_ble_eq_true rfl, Nat.le_of_ble_eq_true rfl, cal_307⟩, rfl, gw_2044, gw_2046, gs_307, _, rfl, rfl⟩) <| 
  mA0 rfl <| 
  mA0 rfl <| 
  mA1 rfl (⟨_, rfl, Nat.le_of_ble_eq_true rfl, gw_1497, rfl⟩) <| 
  mA0 rfl <| 
  mA0 rfl <| 
  mA0 rfl <| 
  mA0 rfl <| 
  mA0 rfl <| 
  mA0 rfl <| 
  mA0 rfl <| 
  mA0 rfl <| 
  mA0 rfl <| 
  mA0 rfl <| 
  mA1 rfl (⟨⟨Nat.le_of_ble_eq_true rfl, Nat.le_of_ble_eq_true rfl, Nat.le_of_ble_eq_true rfl, cal_307⟩, rfl, gw_2044, gw_2046, gs_307, _, rfl, rfl⟩) <| 
  mA0 rfl <| 
  mA0 rfl <| 
  mA0 rfl <| 
  mA0 rfl <| 
  mA1 rfl (Or.inl ⟨rfl, rfl⟩) <| trivial

theorem mc_309 : mAllP 309 mt_309 :=
  mA0 rfl <| 
  mA0 rfl <| 
  mA0 rfl <| 
  mA1 rfl (⟨⟨Nat.le_of_ble_eq_true rfl, Nat.le_of_ble_eq_true rfl, Nat.le_of_ble_eq_true rfl, cal_282⟩, rfl, gw_1965, gw_1967, gs_282, _, rfl, rfl⟩) <| 
  mA0 rfl <| 
  mA0 rfl <| 
  mA0 rfl <| 
  mA0 rfl <| 
  mA1 rfl (⟨⟨Nat.le_of_ble_eq_true rfl, Nat.le_of_ble_eq_true rfl, Nat.le_of_ble_eq_true rfl, cal_210⟩, rfl, gw_1674, gw_1676, gs_210, _, rfl, rfl⟩) <| 
  mA0 rfl <| 
  mA0 rfl <| 
  mA0 rfl <| 
  mA1 rfl (⟨⟨Nat.le_of_ble_eq_true rfl, Nat.le_of_ble_eq_true rfl, Nat.le_of_ble_eq_true rfl, cal_308⟩, rfl, gw_2040, gw_2042, gs_308, _, rfl, rfl⟩) <| 
  mA0 rfl <| 
  mA0 rfl <| 
  mA1 rfl (Or.inl ⟨rfl, rfl⟩) <| trivial

theorem mc_310 : mAllP 310 mt_310 :=
  mA0 rfl <| 
  mA0 rfl <| 
  mA1 rfl (⟨_, rfl, Nat.le_of_ble_eq_true rfl, gw_1448, rfl, Or.inl rfl⟩) <| 
  mA0 rfl <| 
  mA0 rfl <| 
  mA0 rfl <| 
  mA0 rfl <| 
  mA0 rfl <| 
  mA0 rfl <| 
  mA1 rfl (⟨_, rfl, Nat.le_of_ble_eq_true rfl, gw_1499, rfl⟩) <| 
  mA0 rfl <| 
  mA0 rfl <| 
  mA0 rfl <| 
  mA1 rfl (⟨_, rfl, Nat.le_of_ble_eq_true rfl, gw_1497, rfl⟩) <| 
  mA0 rfl <| 
  mA0 rfl <| 
  mA0 rfl <| 
  mA0 rfl <| 
  mA0 rfl <| 
  mA0 rfl <| 
  mA1 rfl (⟨_, rfl, Nat.le_of_ble_eq_true rfl, gw_1497, rfl⟩) <| 
  mA0 rfl <| 
  mA0 rfl <| 
  mA1 rfl (⟨⟨Nat.le_of_ble_eq_true rfl, Nat.le_of_ble_eq_true rfl, Nat.le_of_ble_eq_true rfl, cal_308⟩, rfl, gw_2040, gw_2042, gs_308, _, rfl, rfl⟩) <| 
  mA0 rfl <| 
  mA0 rfl <| 
  mA0 rfl <| 
  mA0 rfl <| 
  mA0 rfl <| 
  mA0 rfl <| 
  mA0 rfl <| 
  mA0 rfl <| 
  mA0 rfl <| 
  mA0 rfl <| 
  mA0 rfl <| 
  mA1 rfl (⟨_, rfl, Nat.le_of_ble_eq_true rfl, gw_1499, rfl⟩) <| 
  mA0 rfl <| 
  mA0 rfl <| 
  mA0 rfl <| 
  mA1 rfl (⟨_, rfl, Nat.le_of_ble_eq_true rfl, gw_1498, rfl⟩) <| 
  mA0 rfl <| 
  mA0 rfl <| 
  mA0 rfl <| 
  mA0 rfl <| 
  mA0 rfl <| 
  mA0 rfl <| 
  mA0 rfl <| 
  mA0 rfl <| 
  mA0 rfl <| 
  mA0 rfl <| 
  mA1 rfl (⟨⟨Nat.le_of_ble_eq_true rfl, Nat.le_of_ble_eq_true rfl, Nat.le_of_ble_eq_true rfl, cal_308⟩, rfl, gw_2040, gw_2042, gs_308, _, rfl, rfl⟩) <| 
  mA0 rfl <| 
  mA0 rfl <| 
  mA0 rfl <| 
  mA0 rfl <| 
  mA0 rfl <| 
  mA0 rfl <| 
  mA0 rfl <| 
  mA0 rfl <| 
  mA0 rfl <| 
  mA0 rfl <| 
  mA0 rfl <| 
  mA0 rfl <| 
  mA1 rfl (Or.inl ⟨rfl, rfl⟩) <| trivial

theorem mc_311 : mAllP 311 mt_311 :=
  mA0 rfl <| 
  mA0 rfl <| 
  mA0 rfl <| 
  mA1 rfl (⟨_, rfl, Nat.le_of_ble_eq_true rfl, gw_1508, rfl⟩) <| 
  mA0 rfl <| 
  mA0 rfl <| 
  mA1 rfl (⟨⟨Nat.le_of_ble_eq_true rfl, Nat.le_of_ble_eq_true rfl, Nat.le_of_ble_eq_true rfl, cal_211⟩, gw_1672, Or.inl gw_1671⟩) <| 
  mA1 rfl (Or.inr ⟨by decide, rfl⟩) <| trivial

theorem mc_312 : mAllP 312 mt_312 :=
  mA0 rfl <| 
  mA0 rfl <| 
  mA0 rfl <| 
  mA1 rfl (⟨⟨Nat.le_of_ble_eq_true rfl, Nat.le_of_ble_eq_true rfl, Nat.le_of_ble_eq_true rfl, cal_218⟩, rfl, gw_1898, gw_1900, gs_218, _, rfl, rfl⟩) <| 
  mA0 rfl <| 
  mA0 rfl <| 
  mA0 rfl <| 
  mA0 rfl <| 
  mA1 rfl (⟨_, rfl, Nat.le_of_ble_eq_true rfl, gw_1508, rfl⟩) <| 
  mA0 rfl <| 
  mA0 rfl <| 
  mA0 rfl <| 
  mA0 rfl <| 
  mA0 rfl <| 
  mA1 rfl (⟨⟨Nat.le_of_ble_eq_true rfl, Nat.le_of_ble_eq_true rfl, Nat.le_of_ble_eq_true rfl, cal_210⟩, rfl, gw_1674, gw_1676, gs_210, _, rfl, rfl⟩) <| 
  mA0 rfl <| 
  mA0 rfl <| 
  mA1 rfl (Or.inl ⟨rfl, rfl⟩) <| 
  mA0 rfl <| 
  mA1 rfl (⟨_, rfl, Nat.le_of_ble_eq_true rfl, gw_1506, rfl⟩) <| 
  mA0 rfl <| 
  mA1 rfl (⟨_, rfl, Nat.le_of_ble_eq_true rfl, gw_1508, rfl⟩) <| 
  mA0 rfl <| 
  mA0 rfl <| 
  mA0 rfl <| 
  mA1 rfl (⟨_, rfl, Nat.le_of_ble_eq_true rfl, gw_1507, rfl⟩) <| 
  mA0 rfl <| 
  mA1 rfl (⟨_, rfl, Nat.le_of_ble_eq_true rfl, gw_1508, rfl⟩) <| 
  mA0 rfl <| 
  mA0 rfl <| 
  mA0 rfl <| 
  mA0 rfl <| 
  mA1 rfl (⟨_, rfl, Nat.le_of_ble_eq_true rfl, gw_1508, rfl⟩) <| 
  mA0 rfl <| 
  mA0 rfl <| 
  mA1 rfl (⟨_, rfl, Nat.le_of_ble_eq_true rfl, gw_1508, rfl, Or.inl rfl⟩) <| 
  mA0 rfl <| 
  mA1 rfl (⟨_, rfl, Nat.le_of_ble_eq_true rfl, gw_1508, rfl⟩) <| 
  mA0 rfl <| 
  mA0 rfl <| 
  mA1 rfl (Or.inl ⟨rfl, rfl⟩) <| trivial

theorem mc_313 : mAllP 313 mt_313 :=
  mA0 rfl <| 
  mA0 rfl <| 
  mA0 rfl <| 
  mA0 rfl <| 
  mA0 rfl <| 
  mA0 rfl <| 
  mA1 rfl (⟨_, rfl, Nat.le_of_ble_eq_true rfl, gw_1510, rfl⟩) <| 
  mA0 rfl <| 
  mA0 rfl <| 
  mA0 rfl <| 
  mA0 rfl <| 
  mA0 rfl <| 
  mA0 rfl <| 
  mA1 rfl (⟨_, rfl, Nat.le_of_ble_eq_true rfl, gw_1509, rfl⟩) <| 
  mA0 rfl <| 
  mA0 rfl <| 
  mA0 rfl <| 
  mA0 rfl <| 
  mA0 rfl <| 
  mA0 rfl <| 
  mA0 rfl <| 
  mA0 rfl <| 
  mA0 rfl <| 
  mA0 rfl <| 
  mA0 rfl <| 
  mA0 rfl <| 
  mA0 rfl <| 
  mA0 rfl <| 
  mA0 rfl <| 
  mA1 rfl (Or.inr ⟨by decide, rfl⟩) <| trivial

theorem mc_314 : mAllP 314 mt_314 :=
  mA0 rfl <| 
  mA0 rfl <| 
  mA1 rfl (⟨⟨Nat.le_of_ble_eq_true rfl, Nat.le_of_ble_eq_true rfl, Nat.le_of_ble_eq_true rfl, cal_218⟩, rfl, gw_1898, gw_1900, gs_218, _, rfl, rfl⟩) <| 
  mA0 rfl <| 
  mA0 rfl <| 
  mA0 rfl <| 
  mA1 rfl (⟨⟨Nat.le_of_ble_eq_true rfl, Nat.le_of_ble_eq_true rfl, Nat.le_of_ble_eq_true rfl, cal_218⟩, rfl, gw_1898, gw_1900, gs_218, _, rfl, rfl⟩) <| 
  mA0 rfl <| 
  mA0 rfl <| 
  mA0 rfl <| 
  mA0 rfl <| 
  mA0 rfl <| 
  mA0 rfl <| 
  mA0 rfl <| 
  mA0 rfl <| 
  mA0 rfl <| 
  mA0 rfl <| 
  mA0 rfl <| 
  mA0 rfl <| 
  mA0 rfl <| 
  mA1 rfl (⟨⟨Nat.le_of_ble_eq_true rfl, Nat.le_of_ble_eq_true rfl, Nat.le_of_ble_eq_true rfl, cal_313⟩, rfl, gw_2060, gw_2062, gs_313, _, rfl, rfl⟩) <| 
  mA0 rfl <| 
  mA0 rfl <| 
  mA1 rfl (⟨_, rfl, Nat.le_of_ble_eq_true rfl, gw_1510, rfl⟩) <| 
  mA0 rfl <| 
  mA0 rfl <| 
  mA0 rfl <| 
  mA0 rfl <| 
  mA0 rfl <| 
  mA0 rfl <| 
  mA0 rfl <| 
  mA1 rfl (⟨⟨Nat.le_of_ble_eq_true rfl, Nat.le_of_ble_eq_true rfl, Nat.le_of_ble_eq_true rfl, cal_210⟩, rfl, gw_1674, gw_1676, gs_210, _, rfl, rfl⟩) <| 
  mA0 rfl <| 
  mA0 rfl <| 
  mA1 rfl (Or.inl ⟨rfl, rfl⟩) <| 
  mA0 rfl <| 
  mA1 rfl (⟨_, rfl, Nat.le_of_ble_eq_true rfl, gw_1509, rfl⟩) <| 
  mA0 rfl <| 
  mA0 rfl <| 
  mA0 rfl <| 
  mA0 rfl <| 
  mA1 rfl (⟨_, rfl, Nat.le_of_ble_eq_true rfl, gw_1510, rfl⟩) <| 
  mA0 rfl <| 
  mA0 rfl <| 
  mA0 rfl <| 
  mA0 rfl <| 
  mA0 rfl <| 
  mA0 rfl <| 
  mA1 rfl (⟨_, rfl, Nat.le_of_ble_eq_true rfl, gw_1510, rfl⟩) <| 
  mA0 rfl <| 
  mA0 rfl <| 
  mA0 rfl <| 
  mA0 rfl <| 
  mA0 rfl <| 
  mA0 rfl <| 
  mA0 rfl <| 
  mA1 rfl (⟨_, rfl, Nat.le_of_ble_eq_true rfl, gw_1510, rfl⟩) <| 
  mA0 rfl <| 
  mA0 rfl <| 
  mA1 rfl (Or.inl ⟨rfl, rfl⟩) <| trivial

theorem mc_315 : mAllP 315 mt_315 :=
  mA0 rfl <| 
  mA0 rfl <| 
  mA1 rfl (⟨⟨Nat.le_of_ble_eq_true rfl, Nat.le_of_ble_eq_true rfl, Nat.le_of_ble_eq_true rfl, cal_311⟩, rfl, gw_2068, gw_2070, gs_311, _, rfl, rfl⟩) <| 
  mA0 rfl <| 
  mA0 rfl <| 
  mA0 rfl <| 
  mA0 rfl <| 
  mA0 rfl <| 
  mA0 rfl <| 
  mA0 rfl <| 
  mA0 rfl <| 
  mA1 rfl (⟨_, rfl, Nat.le_of_ble_eq_true rfl, gw_1506, rfl⟩) <| 
  mA0 rfl <| 
  mA0 rfl <| 
  mA0 rfl <| 
  mA1 rfl (⟨⟨Nat.le_of_ble_eq_true rfl, Nat.le_of_ble_eq_true rfl, Nat.le_of_ble_eq_true rfl, cal_313⟩, rfl, gw_2060, gw_2062, gs_313, _, rfl, rfl⟩) <| 
  mA0 rfl <| 
  mA0 rfl <| 
  mA0 rfl <| 
  mA0 rfl <| 
  mA0 rfl <| 
  mA0 rfl <| 
  mA0 rfl <| 
  mA0 rfl <| 
  mA0 rfl <| 
  mA0 rfl <| 
  mA0 rfl <| 
  mA0 rfl <| 
  mA0 rfl <| 
  mA0 rfl <| 
  mA0 rfl <| 
  mA1 rfl (⟨⟨Nat.le_of_ble_eq_true rfl, Nat.le_of_ble_eq_true rfl, Nat.le_of_ble_eq_true rfl, cal_210⟩, rfl, gw_1674, gw_1676, gs_210, _, rfl, rfl⟩) <| 
  mA0 rfl <| 
  mA0 rfl <| 
  mA1 rfl (Or.inl ⟨rfl, rfl⟩) <| 
  mA0 rfl <| 
  mA1 rfl (⟨_, rfl, Nat.le_of_ble_eq_true rfl, gw_1507, rfl⟩) <| 
  mA0 rfl <| 
  mA0 rfl <| 
  mA0 rfl <| 
  mA0 rfl <| 
  mA1 rfl (⟨_, rfl, Nat.le_of_ble_eq_true rfl, gw_1507, rfl⟩) <| 
  mA0 rfl <| 
  mA0 rfl <| 
  mA0 rfl <| 
  mA0 rfl <| 
  mA1 rfl (Or.inl ⟨rfl, rfl⟩) <| trivial

theorem mc_316 : mAllP 316 mt_316 :=
  mA0 rfl <| 
  mA1 rfl (⟨_, rfl, Nat.le_of_ble_eq_true rfl, gw_1506, rfl⟩) <| 
  mA0 rfl <| 
  mA0 rfl <| 
  mA0 rfl <| 
  mA0 rfl <| 
  mA1 rfl (⟨_, rfl, Nat.le_of_ble_eq_true rfl, gw_1507, rfl⟩) <| 
  mA0 rfl <| 
  mA0 rfl <| 
  mA0 rfl <| 
  mA0 rfl <| 
  mA0 rfl <| 
  mA1 rfl (⟨_, rfl, Nat.le_of_ble_eq_true rfl, gw_1507, rfl⟩) <| 
  mA0 rfl <| 
  mA0 rfl <| 
  mA0 rfl <| 
  mA0 rfl <| 
  mA0 rfl <| 
  mA0 rfl <| 
  mA0 rfl <| 
  mA0 rfl <| 
  mA0 rfl <| 
  mA1 rfl (⟨_, rfl, Nat.le_of_ble_eq_true rfl, gw_1510, rfl⟩) <| 
  mA0 rfl <| 
  mA0 rfl <| 
  mA0 rfl <| 
  mA0 rfl <| 
  mA0 rfl <| 
  mA0 rfl <| 
  mA1 rfl (⟨⟨Nat.le_of_ble_eq_true rfl, Nat.le_of_ble_eq_true rfl, Nat.le_of_ble_eq_true rfl, cal_313⟩, rfl, gw_2060, gw_2062, gs_313, _, rfl, rfl⟩) <| 
  mA0 rfl <| 
  mA0 rfl <| 
  mA0 rfl <| 
  mA0 rfl <| 
  mA0 rfl <| 
  mA0 rfl <| 
  mA0 rfl <| 
  mA1 rfl (Or.inr ⟨by decide, rfl⟩) <| trivial

theorem mc_317 : mAllP 317 mt_317 :=
  mA0 rfl <| 
  mA0 rfl <| 
  mA0 rfl <| 
  mA0 rfl <| 
  mA0 rfl <| 
  mA0 rfl <| 
  mA0 rfl <| 
  mA0 rfl <| 
  mA0 rfl <| 
  mA0 rfl <| 
  mA0 rfl <| 
  mA1 rfl (⟨⟨Nat.le_of_ble_eq_true rfl, Nat.le_of_ble_eq_true rfl, Nat.le_of_ble_eq_true rfl, cal_311⟩, rfl, gw_2068, gw_2070, gs_311, _, rfl, rfl⟩) <| 
  mA0 rfl <| 
  mA0 rfl <| 
  mA0 rfl <| 
  mA0 rfl <| 
  mA0 rfl <| 
  mA0 rfl <| 
  mA0 rfl <| 
  mA1 rfl (⟨⟨Nat.le_of_ble_eq_true rfl, Nat.le_of_ble_eq_true rfl, Nat.le_of_ble_eq_true rfl, cal_311⟩, rfl, gw_2068, gw_2070, gs_311, _, rfl, rfl⟩) <| 
  mA0 rfl <| 
  mA0 rfl <| 
  mA0 rfl <| 
  mA0 rfl <| 
  mA0 rfl <| 
  mA0 rfl <| 
  mA0 rfl <| 
  mA0 rfl <| 
  mA0 rfl <| 
  mA1 rfl (⟨_, rfl, Nat.le_of_ble_eq_true rfl, gw_1506, rfl⟩) <| 
  mA0 rfl <| 
  mA0 rfl <| 
  mA0 rfl <| 
  mA0 rfl <| 
  mA0 rfl <| 
  mA0 rfl <| 
  mA0 rfl <| 
  mA1 rfl (⟨_, rfl, Nat.le_of_ble_eq_true rfl, gw_1506, rfl⟩) <| 
  mA0 rfl <| 
  mA0 rfl <| 
  mA0 rfl <| 
  mA0 rfl <| 
  mA0 rfl <| 
  mA0 rfl <| 
  mA1 rfl (⟨⟨Nat.le_of_ble_eq_true rfl, Nat.le_of_ble_eq_true rfl, Nat.le_of_ble_eq_true rfl, cal_273⟩, rfl, gw_1933, gw_1935, gs_273, _, rfl, rfl⟩) <| 
  mA0 rfl <| 
  mA0 rfl <| 
  mA0 rfl <| 
  mA0 rfl <| 
  mA0 rfl <| 
  mA0 rfl <| 
  mA0 rfl <| 
  mA0 rfl <| 
  mA0 rfl <| 
  mA0 rfl <| 
  mA0 rfl <| 
  mA0 rfl <| 
  mA0 rfl <| 
  mA0 rfl <| 
  mA0 rfl <| 
  mA0 rfl <| 
  mA0 rfl <| 
  mA0 rfl <| 
  mA1 rfl (Or.inr ⟨by decide, rfl⟩) <| 
  mA0 rfl <| 
  mA0 rfl <| 
  mA0 rfl <| 
  mA0 rfl <| 
  mA0 rfl <| 
  mA0 rfl <| 
  mA0 rfl <| 
  mA0 rfl <| 
  mA1 rfl (Or.inr ⟨by decide, rfl⟩) <| trivial

theorem mc_318 : mAllP 318 mt_318 :=
  mA0 rfl <| 
  mA0 rfl <| 
  mA1 rfl (⟨⟨Nat.le_of_ble_eq_true rfl, Nat.le_of_ble_eq_true rfl, Nat.le_of_ble_eq_true rfl, cal_218⟩, rfl, gw_1898, gw_1900, gs_218, _, rfl, rfl⟩) <| 
  mA0 rfl <| 
  mA0 rfl <| 
  mA0 rfl <| 
  mA1 rfl (⟨_, rfl, Nat.le_of_ble_eq_true rfl, gw_1512, rfl, Or.inl rfl⟩) <| 
  mA0 rfl <| 
  mA0 rfl <| 
  mA0 rfl <| 
  mA0 rfl <| 
  mA1 rfl (⟨_, rfl, Nat.le_of_ble_eq_true rfl, gw_1508, rfl⟩) <| 
  mA0 rfl <| 
  mA0 rfl <| 
  mA0 rfl <| 
  mA0 rfl <| 
  mA0 rfl <| 
  mA0 rfl <| 
  mA1 rfl (⟨⟨Nat.le_of_ble_eq_true rfl, Nat.le_of_ble_eq_true rfl, Nat.le_of_ble_eq_true rfl, cal_316⟩, rfl, gw_2076, gw_2078, gs_316, _, rfl, rfl⟩) <| 
  mA0 rfl <| 
  mA0 rfl <| 
  mA1 rfl (⟨_, rfl, Nat.le_of_ble_eq_true rfl, gw_1512, rfl⟩) <| 
  mA0 rfl <| 
  mA0 rfl <| 
  mA0 rfl <| 
  mA0 rfl <| 
  mA0 rfl <| 
  mA0 rfl <| 
  mA1 rfl (⟨_, rfl, Nat.le_of_ble_eq_true rfl, gw_1511, rfl⟩) <| 
  mA0 rfl <| 
  mA0 rfl <| 
  mA0 rfl <| 
  mA0 rfl <| 
  mA0 rfl <| 
  mA0 rfl <| 
  mA0 rfl <| 
  mA0 rfl <| 
  mA0 rfl <| 
  mA1 rfl (⟨⟨Nat.le_of_ble_eq_true rfl, Nat.le_of_ble_eq_true rfl, Nat.le_of_ble_eq_true rfl, cal_317⟩, rfl, gw_2080, gw_2082, gs_317, _, rfl, rfl⟩) <| 
  mA0 rfl <| 
  mA0 rfl <| 
  mA1 rfl (⟨_, rfl, Nat.le_of_ble_eq_true rfl, gw_1511, rfl⟩) <| 
  mA0 rfl <| 
  mA0 rfl <| 
  mA1 rfl (⟨_, rfl, Nat.le_of_ble_eq_true rfl, gw_1511, rfl⟩) <| 
  mA0 rfl <| 
  mA0 rfl <| 
  mA0 rfl <| 
  mA0 rfl <| 
  mA0 rfl <| 
  mA0 rfl <| 
  mA0 rfl <| 
  mA0 rfl <| 
  mA1 rfl (⟨_, rfl, Nat.le_of_ble_eq_true rfl, gw_1511, rfl⟩) <| 
  mA0 rfl <| 
  mA0 rfl <| 
  mA0 rfl <| 
  mA0 rfl <| 
  mA0 rfl <| 
  mA1 rfl (⟨_, rfl, Nat.le_of_ble_eq_true rfl, gw_1512, rfl⟩) <| 
  mA0 rfl <| 
  mA0 rfl <| 
  mA1 rfl (⟨_, rfl, Nat.le_of_ble_eq_true rfl, gw_1512, rfl, Or.inl rfl⟩) <| 
  mA0 rfl <| 
  mA0 rfl <| 
  mA0 rfl <| 
  mA0 rfl <| 
  mA0 rfl <| 
  mA0 rfl <| 
  mA0 rfl <| 
  mA0 rfl <| 
  mA1 rfl (⟨_, rfl, Nat.le_of_ble_eq_true rfl, gw_1512, rfl⟩) <| 
  mA0 rfl <| 
  mA0 rfl <| 
  mA1 rfl (⟨⟨Nat.le_of_ble_eq_true rfl, Nat.le_of_ble_eq_true rfl, Nat.le_of_ble_eq_true rfl, cal_211⟩, gw_1672, Or.inl gw_1671⟩) <| 
  mA0 rfl <| 
  mA0 rfl <| 
  mA0 rfl <| 
  mA0 rfl <| 
  mA1 rfl (⟨⟨Nat.le_of_ble_eq_true rfl, Nat.le_of_ble_eq_true rfl, Nat.le_of_ble_eq_true rfl, cal_210⟩, rfl, gw_1674, gw_1676, gs_210, _, rfl, rfl⟩) <| 
  mA0 rfl <| 
  mA0 rfl <| 
  mA1 rfl (⟨_, rfl, Nat.le_of_ble_eq_true rfl, gw_1511, rfl⟩) <| 
  mA0 rfl <| 
  mA0 rfl <| 
  mA0 rfl <| 
  mA0 rfl <| 
  mA1 rfl (Or.inl ⟨rfl, rfl⟩) <| trivial

theorem mc_319 : mAllP 319 mt_319 :=
  mA0 rfl <| 
  mA1 rfl (⟨_, rfl, Nat.le_of_ble_eq_true rfl, gw_1515, rfl⟩) <| 
  mA0 rfl <| 
  mA0 rfl <| 
  mA0 rfl <| 
  mA0 rfl <| 
  mA1 rfl (⟨_, rfl, Nat.le_of_ble_eq_true rfl, gw_1513, rfl⟩) <| 
  mA0 rfl <| 
  mA1 rfl (⟨_, rfl, Nat.le_of_ble_eq_true rfl, gw_1515, rfl⟩) <| 
  mA0 rfl <| 
  mA0 rfl <| 
  mA0 rfl <| 
  mA0 rfl <| 
  mA0 rfl <| 
  mA0 rfl <| 
  mA0 rfl <| 
  mA1 rfl (⟨_, rfl, Nat.le_of_ble_eq_true rfl, gw_1515, rfl⟩) <| 
  mA0 rfl <| 
  mA0 rfl <| 
  mA0 rfl <| 
  mA0 rfl <| 
  mA1 rfl (⟨_, rfl, Nat.le_of_ble_eq_true rfl, gw_1514, rfl⟩) <| 
  mA0 rfl <| 
  mA1 rfl (⟨_, rfl, Nat.le_of_ble_eq_true rfl, gw_1515, rfl⟩) <| 
  mA0 rfl <| 
  mA0 rfl <| 
  mA0 rfl <| 
  mA0 rfl <| 
  mA0 rfl <| 
  mA0 rfl <| 
  mA0 rfl <| 
  mA0 rfl <| 
  mA0 rfl <| 
  mA1 rfl (⟨⟨Nat.le_of_ble_eq_true rfl, Nat.le_of_ble_eq_true rfl, Nat.le_of_ble_eq_true rfl, cal_211⟩, gw_1672, Or.inl gw_1671⟩) <| 
  mA0 rfl <| 
  mA0 rfl <| 
  mA0 rfl <| 
  mA0 rfl <| 
  mA1 rfl (⟨⟨Nat.le_of_ble_eq_true rfl, Nat.le_of_ble_eq_true rfl, Nat.le_of_ble_eq_true rfl, cal_211⟩, gw_1672, Or.inl gw_1671⟩) <| 
  mA0 rfl <| 
  mA0 rfl <| 
  mA0 rfl <| 
  mA0 rfl <| 
  mA0 rfl <| 
  mA0 rfl <| 
  mA0 rfl <| 
  mA0 rfl <| 
  mA0 rfl <| 
  mA0 rfl <| 
  mA0 rfl <| 
  mA1 rfl (⟨_, rfl, Nat.le_of_ble_eq_true rfl, gw_1515, rfl⟩) <| 
  mA0 rfl <| 
  mA0 rfl <| 
  mA0 rfl <| 
  mA0 rfl <| 
  mA0 rfl <| 
  mA1 rfl (⟨⟨Nat.le_of_ble_eq_true rfl, Nat.le_of_ble_eq_true rfl, Nat.le_of_ble_eq_true rfl, cal_210⟩, rfl, gw_1674, gw_1676, gs_210, _, rfl, rfl⟩) <| 
  mA0 rfl <| 
  mA0 rfl <| 
  mA1 rfl (Or.inl ⟨rfl, rfl⟩) <| 
  mA0 rfl <| 
  mA1 rfl (⟨_, rfl, Nat.le_of_ble_eq_true rfl, gw_1513, rfl⟩) <| 
  mA0 rfl <| 
  mA1 rfl (⟨_, rfl, Nat.le_of_ble_eq_true rfl, gw_1515, rfl⟩) <| 
  mA0 rfl <| 
  mA0 rfl <| 
  mA0 rfl <| 
  mA1 rfl (⟨_, rfl, Nat.le_of_ble_eq_true rfl, gw_1514, rfl⟩) <| 
  mA0 rfl <| 
  mA1 rfl (⟨_, rfl, Nat.le_of_ble_eq_true rfl, gw_1515, rfl⟩) <| 
  mA0 rfl <| 
  mA0 rfl <| 
  mA0 rfl <| 
  mA0 rfl <| 
  mA1 rfl (⟨_, rfl, Nat.le_of_ble_eq_true rfl, gw_1515, rfl⟩) <| 
  mA0 rfl <| 
  mA0 rfl <| 
  mA1 rfl (⟨_, rfl, Nat.le_of_ble_eq_true rfl, gw_1515, rfl, Or.inl rfl⟩) <| 
  mA0 rfl <| 
  mA1 rfl (⟨_, rfl, Nat.le_of_ble_eq_true rfl, gw_1515, rfl⟩) <| 
  mA1 rfl (Or.inl ⟨rfl, rfl⟩) <| trivial

theorem mc_320 : mAllP 320 mt_320 :=
  mA0 rfl <| 
  mA0 rfl <| 
  mA0 rfl <| 
  mA0 rfl <| 
  mA0 rfl <| 
  mA0 rfl <| 
  mA1 rfl (⟨_, rfl, Nat.le_of_ble_eq_true rfl, gw_1515, rfl⟩) <| 
  mA0 rfl <| 
  mA0 rfl <| 
  mA1 rfl (⟨_, rfl, Nat.le_of_ble_eq_true rfl, gw_1513, rfl⟩) <| 
  mA0 rfl <| 
  mA0 rfl <| 
  mA0 rfl <| 
  mA0 rfl <| 
  mA0 rfl <| 
  mA0 rfl <| 
  mA0 rfl <| 
  mA0 rfl <| 
  mA0 rfl <| 
  mA0 rfl <| 
  mA0 rfl <| 
  mA0 rfl <| 
  mA0 rfl <| 
  mA0 rfl <| 
  mA0 rfl <| 
  mA1 rfl (⟨_, rfl, Nat.le_of_ble_eq_true rfl, gw_1513, rfl⟩) <| 
  mA0 rfl <| 
  mA1 rfl (⟨_, rfl, Nat.le_of_ble_eq_true rfl, gw_1515, rfl⟩) <| 
  mA0 rfl <| 
  mA0 rfl <| 
  mA0 rfl <| 
  mA0 rfl <| 
  mA0 rfl <| 
  mA1 rfl (Or.inl ⟨rfl, rfl⟩) <| 
  mA0 rfl <| 
  mA0 rfl <| 
  mA1 rfl (⟨_, rfl, Nat.le_of_ble_eq_true rfl, gw_1515, rfl⟩) <| 
  mA0 rfl <| 
  mA0 rfl <| 
  mA0 rfl <| 
  mA0 rfl <| 
  mA0 rfl <| 
  mA0 rfl <| 
  mA0 rfl <| 
  mA1 rfl (⟨_, rfl, Nat.le_of_ble_eq_true rfl, gw_1513, rfl⟩) <| 
  mA0 rfl <| 
  mA0 rfl <| 
  mA0 rfl <| 
  mA0 rfl <| 
  mA1 rfl (⟨_, rfl, Nat.le_of_ble_eq_true rfl, gw_1514, rfl⟩) <| 
  mA0 rfl <| 
  mA0 rfl <| 
  mA0 rfl <| 
  mA0 rfl <| 
  mA0 rfl <| 
  mA1 rfl (⟨_, rfl, Nat.le_of_ble_eq_true rfl, gw_1514, rfl⟩) <| 
  mA0 rfl <| 
  mA0 rfl <| 
  mA0 rfl <| 
  mA0 rfl <| 
  mA0 rfl <| 
  mA1 rfl (⟨_, rfl, Nat.le_of_ble_eq_true rfl, gw_1513, rfl⟩) <| 
  mA0 rfl <| 
  mA0 rfl <| 
  mA0 rfl <| 
  mA0 rfl <| 
  mA0 rfl <| 
  mA1 rfl (⟨_, rfl, Nat.le_of_ble_eq_true rfl, gw_1513, rfl⟩) <| 
  mA0 rfl <| 
  mA0 rfl <| 
  mA0 rfl <| 
  mA0 rfl <| 
  mA0 rfl <| 
  mA0 rfl <| 
  mA1 rfl (⟨_, rfl, Nat.le_of_ble_eq_true rfl, gw_1514, rfl⟩) <| 
  mA0 rfl <| 
  mA0 rfl <| 
  mA0 rfl <| 
  mA0 rfl <| 
  mA1 rfl (Or.inl ⟨rfl, rfl⟩) <| trivial

theorem mc_321 : mAllP 321 mt_321 :=
  mA0 rfl <| 
  mA0 rfl <| 
  mA0 rfl <| 
  mA1 rfl (⟨_, rfl, Nat.le_of_ble_eq_true rfl, gw_1496, rfl⟩) <| 
  mA0 rfl <| 
  mA0 rfl <| 
  mA0 rfl <| 
  mA0 rfl <| 
  mA1 rfl (⟨_, rfl, Nat.le_of_ble_eq_true rfl, gw_1496, rfl⟩) <| 
  mA0 rfl <| 
  mA0 rfl <| 
  mA0 rfl <| 
  mA0 rfl <| 
  mA0 rfl <| 
  mA0 rfl <| 
  mA0 rfl <| 
  mA0 rfl <| 
  mA0 rfl <| 
  mA0 rfl <| 
  mA0 rfl <| 
  mA0 rfl <| 
  mA0 rfl <| 
  mA0 rfl <| 
  mA0 rfl <| 
  mA0 rfl <| 
  mA1 rfl (⟨_, rfl, Nat.le_of_ble_eq_true rfl, gw_1495, rfl⟩) <| 
  mA0 rfl <| 
  mA0 rfl <| 
  mA0 rfl <| 
  mA0 rfl <| 
  mA1 rfl (⟨⟨Nat.le_of_ble_eq_true rfl, Nat.le_of_ble_eq_true rfl, Nat.le_of_ble_eq_true rfl, cal_320⟩, rfl, gw_2096, gw_2098, gs_320, _, rfl, rfl⟩) <| 
  mA0 rfl <| 
  mA0 rfl <| 
  mA1 rfl (⟨_, rfl, Nat.le_of_ble_eq_true rfl, gw_1495, rfl⟩) <| 
  mA0 rfl <| 
  mA0 rfl <| 
  mA0 rfl <| 
  mA0 rfl <| 
  mA0 rfl <| 
  mA0 rfl <| 
  mA0 rfl <| 
  mA0 rfl <| 
  mA0 rfl <| 
  mA0 rfl <| 
  mA0 rfl <| 
  mA0 rfl <| 
  mA0 rfl <| 
  mA0 rfl <| 
  mA0 rfl <| 
  mA0 rfl <| 
  mA0 rfl <| 
  mA0 rfl <| 
  mA0 rfl <| 
  mA0 rfl <| 
  mA0 rfl <| 
  mA0 rfl <| 
  mA0 rfl <| 
  mA0 rfl <| 
  mA1 rfl (⟨⟨Nat.le_of_ble_eq_true rfl, Nat.le_of_ble_eq_true rfl, Nat.le_of_ble_eq_true rfl, cal_285⟩, rfl, gw_1977, gw_1979, gs_285, _, rfl, rfl⟩) <| 
  mA0 rfl <| 
  mA0 rfl <| 
  mA0 rfl <| 
  mA1 rfl (⟨_, rfl, Nat.le_of_ble_eq_true rfl, gw_1495, rfl⟩) <| 
  mA0 rfl <| 
  mA0 rfl <| 
  mA0 rfl <| 
  mA0 rfl <| 
  mA1 rfl (⟨_, rfl, Nat.le_of_ble_eq_true rfl, gw_1496, rfl⟩) <| 
  mA0 rfl <| 
  mA0 rfl <| 
  mA0 rfl <| 
  mA0 rfl <| 
  mA0 rfl <| 
  mA0 rfl <| 
  mA1 rfl (⟨_, rfl, Nat.le_of_ble_eq_true rfl, gw_1496, rfl⟩) <| 
  mA0 rfl <| 
  mA0 rfl <| 
  mA0 rfl <| 
  mA0 rfl <| 
  mA0 rfl <| 
  mA0 rfl <| 
  mA0 rfl <| 
  mA0 rfl <| 
  mA0 rfl <| 
  mA1 rfl (Or.inl ⟨rfl, rfl⟩) <| trivial

theorem mc_322 : mAllP 322 mt_322 :=
  mA0 rfl <| 
  mA0 rfl <| 
  mA1 rfl (⟨_, rfl, Nat.le_of_ble_eq_true rfl, gw_1515, rfl⟩) <| 
  mA0 rfl <| 
  mA0 rfl <| 
  mA0 rfl <| 
  mA0 rfl <| 
  mA0 rfl <| 
  mA1 rfl (⟨⟨Nat.le_of_ble_eq_true rfl, Nat.le_of_ble_eq_true rfl, Nat.le_of_ble_eq_true rfl, cal_210⟩, rfl, gw_1674, gw_1676, gs_210, _, rfl, rfl⟩) <| 
  mA0 rfl <| 
  mA0 rfl <| 
  mA1 rfl (Or.inl ⟨rfl, rfl⟩) <| 
  mA0 rfl <| 
  mA0 rfl <| 
  mA0 rfl <| 
  mA0 rfl <| 
  mA0 rfl <| 
  mA0 rfl <| 
  mA1 rfl (⟨_, rfl, Nat.le_of_ble_eq_true rfl, gw_1499, rfl⟩) <| 
  mA0 rfl <| 
  mA0 rfl <| 
  mA0 rfl <| 
  mA0 rfl <| 
  mA1 rfl (⟨⟨Nat.le_of_ble_eq_true rfl, Nat.le_of_ble_eq_true rfl, Nat.le_of_ble_eq_true rfl, cal_321⟩, rfl, gw_2092, gw_2094, gs_321, _, rfl, rfl⟩) <| 
  mA0 rfl <| 
  mA0 rfl <| 
  mA0 rfl <| 
  mA0 rfl <| 
  mA0 rfl <| 
  mA0 rfl <| 
  mA1 rfl (⟨_, rfl, Nat.le_of_ble_eq_true rfl, gw_1515, rfl, Or.inl rfl⟩) <| 
  mA0 rfl <| 
  mA1 rfl (Or.inl ⟨rfl, rfl⟩) <| trivial

theorem mc_323 : mAllP 323 mt_323 :=
  mA0 rfl <| 
  mA0 rfl <| 
  mA0 rfl <| 
  mA0 rfl <| 
  mA1 rfl (⟨⟨Nat.le_of_ble_eq_true rfl, Nat.le_of_ble_eq_true rfl, Nat.le_of_ble_eq_true rfl, cal_211⟩, gw_1672, Or.inl gw_1671⟩) <| 
  mA0 rfl <| 
  mA0 rfl <| 
  mA0 rfl <| 
  mA0 rfl <| 
  mA1 rfl (⟨⟨Nat.le_of_ble_eq_true rfl, Nat.le_of_ble_eq_true rfl, Nat.le_of_ble_eq_true rfl, cal_211⟩, gw_1672, Or.inl gw_1671⟩) <| 
  mA0 rfl <| 
  mA0 rfl <| 
  mA0 rfl <| 
  mA0 rfl <| 
  mA1 rfl (⟨⟨Nat.le_of_ble_eq_true rfl, Nat.le_of_ble_eq_true rfl, Nat.le_of_ble_eq_true rfl, cal_210⟩, rfl, gw_1674, gw_1676, gs_210, _, rfl, rfl⟩) <| 
  mA0 rfl <| 
  mA0 rfl <| 
  mA1 rfl (Or.inl ⟨rfl, rfl⟩) <| 
  mA0 rfl <| 
  mA1 rfl (⟨_, rfl, Nat.le_of_ble_eq_true rfl, gw_1516, rfl⟩) <| 
  mA0 rfl <| 
  mA0 rfl <| 
  mA0 rfl <| 
  mA1 rfl (⟨_, rfl, Nat.le_of_ble_eq_true rfl, gw_1516, rfl, Or.inl rfl⟩) <| 
  mA0 rfl <| 
  mA0 rfl <| 
  mA1 rfl (⟨_, rfl, Nat.le_of_ble_eq_true rfl, gw_1517, rfl, Or.inl rfl⟩) <| 
  mA0 rfl <| 
  mA1 rfl (Or.inl ⟨rfl, rfl⟩) <| trivial
