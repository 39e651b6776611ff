/-! Each entry's facts. -/

theorem mc_179 : mAllP 179 mt_179 :=
  mA0 rfl <| 
  mA0 rfl <| 
  mA0 rfl <| 
  mA0 rfl <| 
  mA0 rfl <| 
  mA0 rfl <| 
  mA0 rfl <| 
  mA0 rfl <| 
  mA0 rfl <| 
  mA1 rfl (Or.inr ⟨by decide, rfl⟩) <| trivial

theorem mc_180 : mAllP 180 mt_180 :=
  mA0 rfl <| 
  mA0 rfl <| 
  mA0 rfl <| 
  mA0 rfl <| 
  mA0 rfl <| 
  mA0 rfl <| 
  mA0 rfl <| 
  mA0 rfl <| 
  mA0 rfl <| 
  mA1 rfl (Or.inr ⟨by decide, rfl⟩) <| trivial

theorem mc_181 : mAllP 181 mt_181 :=
  mA0 rfl <| 
  mA0 rfl <| 
  mA0 rfl <| 
  mA0 rfl <| 
  mA0 rfl <| 
  mA0 rfl <| 
  mA0 rfl <| 
  mA0 rfl <| 
  mA0 rfl <| 
  mA1 rfl (Or.inr ⟨by decide, rfl⟩) <| trivial

theorem mc_182 : mAllP 182 mt_182 :=
  mA0 rfl <| 
  mA1 rfl (⟨⟨Nat.le_of_ble_eq_true rfl, Nat.le_of_ble_eq_true rfl, Nat.le_of_ble_eq_true rfl, cal_179⟩, gw_520, Or.inl gw_581⟩) <| 
  mA0 rfl <| 
  mA1 rfl (gw_582) <| 
  mA0 rfl <| 
  mA0 rfl <| 
  mA0 rfl <| 
  mA0 rfl <| 
  mA0 rfl <| 
  mA0 rfl <| 
  mA1 rfl (Or.inl ⟨rfl, rfl⟩) <| trivial

theorem mc_183 : mAllP 183 mt_183 :=
  mA0 rfl <| 
  mA0 rfl <| 
  mA0 rfl <| 
  mA0 rfl <| 
  mA0 rfl <| 
  mA1 rfl (Or.inl ⟨rfl, rfl⟩) <| trivial

theorem mc_184 : mAllP 184 mt_184 :=
  mA0 rfl <| 
  mA0 rfl <| 
  mA0 rfl <| 
  mA0 rfl <| 
  mA0 rfl <| 
  mA0 rfl <| 
  mA0 rfl <| 
  mA0 rfl <| 
  mA0 rfl <| 
  mA0 rfl <| 
  mA1 rfl (⟨⟨Nat.le_of_ble_eq_true rfl, Nat.le_of_ble_eq_true rfl, Nat.le_of_ble_eq_true rfl, cal_93⟩, rfl, gw_365, gw_91, gw_92, _, rfl, rfl⟩) <| 
  mA0 rfl <| 
  mA0 rfl <| 
  mA1 rfl (Or.inl ⟨rfl, rfl⟩) <| 
  mA0 rfl <| 
  mA0 rfl <| 
  mA0 rfl <| 
  mA0 rfl <| 
  mA0 rfl <| 
  mA0 rfl <| 
  mA0 rfl <| 
  mA0 rfl <| 
  mA0 rfl <| 
  mA0 rfl <| 
  mA0 rfl <| 
  mA0 rfl <| 
  mA1 rfl (⟨⟨Nat.le_of_ble_eq_true rfl, Nat.le_of_ble_eq_true rfl, Nat.le_of_ble_eq_true rfl, cal_95⟩, rfl, gw_569, gw_95, gw_96, _, rfl, rfl⟩) <| 
  mA0 rfl <| 
  mA0 rfl <| 
  mA0 rfl <| 
  mA0 rfl <| 
  mA0 rfl <| 
  mA0 rfl <| 
  mA0 rfl <| 
  mA1 rfl (Or.inl ⟨rfl, rfl⟩) <| trivial

theorem mc_185 : mAllP 185 mt_185 :=
  mA0 rfl <| 
  mA0 rfl <| 
  mA0 rfl <| 
  mA1 rfl (Or.inl ⟨rfl, rfl⟩) <| trivial

theorem mc_186 : mAllP 186 mt_186 :=
  mA0 rfl <| 
  mA0 rfl <| 
  mA0 rfl <| 
  mA1 rfl (Or.inl ⟨rfl, rfl⟩) <| 
  mA0 rfl <| 
  mA0 rfl <| 
  mA0 rfl <| 
  mA0 rfl <| 
  mA0 rfl <| 
  mA0 rfl <| 
  mA0 rfl <| 
  mA0 rfl <| 
  mA0 rfl <| 
  mA0 rfl <| 
  mA0 rfl <| 
  mA1 rfl (Or.inl ⟨rfl, rfl⟩) <| trivial

theorem mc_187 : mAllP 187 mt_187 :=
  mA0 rfl <| 
  mA0 rfl <| 
  mA0 rfl <| 
  mA1 rfl (⟨⟨Nat.le_of_ble_eq_true rfl, Nat.le_of_ble_eq_true rfl, Nat.le_of_ble_eq_true rfl, cal_186⟩, gw_590, Or.inl gw_595⟩) <| 
  mA0 rfl <| 
  mA0 rfl <| 
  mA0 rfl <| 
  mA0 rfl <| 
  mA0 rfl <| 
  mA0 rfl <| 
  mA0 rfl <| 
  mA0 rfl <| 
  mA0 rfl <| 
  mA0 rfl <| 
  mA0 rfl <| 
  mA0 rfl <| 
  mA0 rfl <| 
  mA0 rfl <| 
  mA0 rfl <| 
  mA0 rfl <| 
  mA0 rfl <| 
  mA1 rfl (Or.inl ⟨rfl, rfl⟩) <| trivial

theorem mc_188 : mAllP 188 mt_188 :=
  mA0 rfl <| 
  mA0 rfl <| 
  mA1 rfl (⟨⟨Nat.le_of_ble_eq_true rfl, Nat.le_of_ble_eq_true rfl, Nat.le_of_ble_eq_true rfl, cal_173⟩, rfl, gw_446, gw_448, gs_173, _, rfl, rfl⟩) <| 
  mA0 rfl <| 
  mA0 rfl <| 
  mA1 rfl (⟨⟨Nat.le_of_ble_eq_true rfl, Nat.le_of_ble_eq_true rfl, Nat.le_of_ble_eq_true rfl, cal_78⟩, rfl, gw_450, gw_451, gw_452, _, rfl, rfl⟩) <| 
  mA0 rfl <| 
  mA0 rfl <| 
  mA1 rfl (⟨⟨Nat.le_of_ble_eq_true rfl, Nat.le_of_ble_eq_true rfl, Nat.le_of_ble_eq_true rfl, cal_79⟩, rfl, gw_454, gw_455, gw_456, _, rfl, rfl⟩) <| 
  mA1 rfl (⟨_, rfl⟩) <| 
  mA0 rfl <| 
  mA1 rfl (⟨_, rfl, Nat.le_of_ble_eq_true rfl, gw_318, rfl⟩) <| 
  mA1 rfl (⟨⟨Nat.le_of_ble_eq_true rfl, Nat.le_of_ble_eq_true rfl, Nat.le_of_ble_eq_true rfl, cal_100⟩, rfl, gw_366, gw_87, gw_88, _, rfl, rfl⟩) <| 
  mA0 rfl <| 
  mA1 rfl (⟨⟨Nat.le_of_ble_eq_true rfl, Nat.le_of_ble_eq_true rfl, Nat.le_of_ble_eq_true rfl, cal_80⟩, rfl, gw_458, gw_459, gw_460, _, rfl, rfl⟩) <| 
  mA0 rfl <| 
  mA0 rfl <| 
  mA0 rfl <| 
  mA0 rfl <| 
  mA1 rfl (⟨_, rfl, Nat.le_of_ble_eq_true rfl, gw_309, rfl⟩) <| 
  mA0 rfl <| 
  mA0 rfl <| 
  mA0 rfl <| 
  mA0 rfl <| 
  mA1 rfl (⟨⟨Nat.le_of_ble_eq_true rfl, Nat.le_of_ble_eq_true rfl, Nat.le_of_ble_eq_true rfl, cal_171⟩, rfl, gw_463, gw_465, gs_171, _, rfl, rfl⟩) <| 
  mA0 rfl <| 
  mA1 rfl (⟨_, rfl, Nat.le_of_ble_eq_true rfl, gw_317, rfl⟩) <| 
  mA1 rfl (⟨⟨Nat.le_of_ble_eq_true rfl, Nat.le_of_ble_eq_true rfl, Nat.le_of_ble_eq_true rfl, cal_193⟩, rfl, gw_467, gw_469, gs_193, _, rfl, rfl⟩) <| 
  mA0 rfl <| 
  mA1 rfl (⟨_, rfl, Nat.le_of_ble_eq_true rfl, gw_315, rfl⟩) <| 
  mA0 rfl <| 
  mA0 rfl <| 
  mA1 rfl (⟨⟨Nat.le_of_ble_eq_true rfl, Nat.le_of_ble_eq_true rfl, Nat.le_of_ble_eq_true rfl, cal_172⟩, rfl, gw_495, gw_497, gs_172, _, rfl, rfl⟩) <| 
  mA0 rfl <| 
  mA0 rfl <| 
  mA1 rfl (⟨_, rfl, Nat.le_of_ble_eq_true rfl, gw_317, rfl⟩) <| 
  mA0 rfl <| 
  mA0 rfl <| 
  mA1 rfl (⟨⟨Nat.le_of_ble_eq_true rfl, Nat.le_of_ble_eq_true rfl, Nat.le_of_ble_eq_true rfl, cal_170⟩, rfl, gw_499, gw_501, gs_170, _, rfl, rfl⟩) <| 
  mA1 rfl (⟨⟨Nat.le_of_ble_eq_true rfl, Nat.le_of_ble_eq_true rfl, Nat.le_of_ble_eq_true rfl, cal_2⟩, rfl, gw_503, gw_504, gw_505, _, rfl, rfl⟩) <| 
  mA0 rfl <| 
  mA0 rfl <| 
  mA0 rfl <| 
  mA1 rfl (⟨⟨Nat.le_of_ble_eq_true rfl, Nat.le_of_ble_eq_true rfl, Nat.le_of_ble_eq_true rfl, cal_170⟩, rfl, gw_499, gw_501, gs_170, _, rfl, rfl⟩) <| 
  mA1 rfl (⟨⟨Nat.le_of_ble_eq_true rfl, Nat.le_of_ble_eq_true rfl, Nat.le_of_ble_eq_true rfl, cal_3⟩, gw_623, Or.inl gw_622⟩) <| 
  mA1 rfl (⟨⟨Nat.le_of_ble_eq_true rfl, Nat.le_of_ble_eq_true rfl, Nat.le_of_ble_eq_true rfl, cal_81⟩, rfl, gw_625, gw_626, gw_627, _, rfl, rfl⟩) <| 
  mA0 rfl <| 
  mA0 rfl <| 
  mA1 rfl (⟨⟨Nat.le_of_ble_eq_true rfl, Nat.le_of_ble_eq_true rfl, Nat.le_of_ble_eq_true rfl, cal_171⟩, rfl, gw_463, gw_465, gs_171, _, rfl, rfl⟩) <| 
  mA0 rfl <| 
  mA1 rfl (⟨⟨Nat.le_of_ble_eq_true rfl, Nat.le_of_ble_eq_true rfl, Nat.le_of_ble_eq_true rfl, cal_54⟩, rfl, gw_630, gw_631, gw_632, _, rfl, rfl⟩) <| 
  mA0 rfl <| 
  mA0 rfl <| 
  mA0 rfl <| 
  mA1 rfl (⟨⟨Nat.le_of_ble_eq_true rfl, Nat.le_of_ble_eq_true rfl, Nat.le_of_ble_eq_true rfl, cal_171⟩, rfl, gw_463, gw_465, gs_171, _, rfl, rfl⟩) <| 
  mA1 rfl (⟨⟨Nat.le_of_ble_eq_true rfl, Nat.le_of_ble_eq_true rfl, Nat.le_of_ble_eq_true rfl, cal_52⟩, rfl, gw_634, gw_635, gw_636, _, rfl, rfl⟩) <| 
  mA0 rfl <| 
  mA0 rfl <| 
  mA0 rfl <| 
  mA1 rfl (⟨_, rfl, Nat.le_of_ble_eq_true rfl, gw_318, rfl⟩) <| 
  mA0 rfl <| 
  mA0 rfl <| 
  mA1 rfl (⟨⟨Nat.le_of_ble_eq_true rfl, Nat.le_of_ble_eq_true rfl, Nat.le_of_ble_eq_true rfl, cal_191⟩, rfl, gw_638, gw_640, gs_191, _, rfl, rfl⟩) <| 
  mA0 rfl <| 
  mA0 rfl <| 
  mA0 rfl <| 
  mA0 rfl <| 
  mA0 rfl <| 
  mA0 rfl <| 
  mA1 rfl (⟨_, rfl, Nat.le_of_ble_eq_true rfl, gw_318, rfl⟩) <| 
  mA1 rfl (⟨⟨Nat.le_of_ble_eq_true rfl, Nat.le_of_ble_eq_true rfl, Nat.le_of_ble_eq_true rfl, cal_93⟩, rfl, gw_365, gw_91, gw_92, _, rfl, rfl⟩) <| 
  mA0 rfl <| 
  mA0 rfl <| 
  mA1 rfl (⟨⟨Nat.le_of_ble_eq_true rfl, Nat.le_of_ble_eq_true rfl, Nat.le_of_ble_eq_true rfl, cal_79⟩, rfl, gw_454, gw_455, gw_456, _, rfl, rfl⟩) <| 
  mA0 rfl <| 
  mA1 rfl (⟨_, rfl, Nat.le_of_ble_eq_true rfl, gw_318, rfl⟩) <| 
  mA0 rfl <| 
  mA1 rfl (⟨⟨Nat.le_of_ble_eq_true rfl, Nat.le_of_ble_eq_true rfl, Nat.le_of_ble_eq_true rfl, cal_95⟩, rfl, gw_569, gw_95, gw_96, _, rfl, rfl⟩) <| 
  mA1 rfl (⟨⟨Nat.le_of_ble_eq_true rfl, Nat.le_of_ble_eq_true rfl, Nat.le_of_ble_eq_true rfl, cal_97⟩, rfl, gw_494, gw_79, gw_80, _, rfl, rfl⟩) <| 
  mA0 rfl <| 
  mA0 rfl <| 
  mA1 rfl (⟨_, rfl, Nat.le_of_ble_eq_true rfl, gw_318, rfl⟩) <| 
  mA0 rfl <| 
  mA1 rfl (⟨⟨Nat.le_of_ble_eq_true rfl, Nat.le_of_ble_eq_true rfl, Nat.le_of_ble_eq_true rfl, cal_95⟩, rfl, gw_569, gw_95, gw_96, _, rfl, rfl⟩) <| 
  mA0 rfl <| 
  mA1 rfl (⟨⟨Nat.le_of_ble_eq_true rfl, Nat.le_of_ble_eq_true rfl, Nat.le_of_ble_eq_true rfl, cal_79⟩, rfl, gw_454, gw_455, gw_456, _, rfl, rfl⟩) <| 
  mA1 rfl (⟨⟨Nat.le_of_ble_eq_true rfl, Nat.le_of_ble_eq_true rfl, Nat.le_of_ble_eq_true rfl, cal_190⟩, rfl, gw_655, gw_657, gs_190, _, rfl, rfl⟩) <| 
  mA0 rfl <| 
  mA0 rfl <| 
  mA0 rfl <| 
  mA1 rfl (⟨⟨Nat.le_of_ble_eq_true rfl, Nat.le_of_ble_eq_true rfl, Nat.le_of_ble_eq_true rfl, cal_79⟩, rfl, gw_454, gw_455, gw_456, _, rfl, rfl⟩) <| 
  mA1 rfl (⟨_, rfl⟩) <| trivial

theorem mc_189 : mAllP 189 mt_189 :=
  mA0 rfl <| 
  mA0 rfl <| 
  mA0 rfl <| 
  mA0 rfl <| 
  mA0 rfl <| 
  mA0 rfl <| 
  mA0 rfl <| 
  mA1 rfl (⟨⟨Nat.le_of_ble_eq_true rfl, Nat.le_of_ble_eq_true rfl, Nat.le_of_ble_eq_true rfl, cal_173⟩, rfl, gw_446, gw_448, gs_173, _, rfl, rfl⟩) <| 
  mA1 rfl (⟨⟨Nat.le_of_ble_eq_true rfl, Nat.le_of_ble_eq_true rfl, Nat.le_of_ble_eq_true rfl, cal_83⟩, rfl, gw_963, gw_964, gw_965, _, rfl, rfl⟩) <| 
  mA0 rfl <| 
  mA0 rfl <| 
  mA1 rfl (rfl) <| trivial

theorem mc_190 : mAllP 190 mt_190 :=
  mA0 rfl <| 
  mA1 rfl (⟨⟨Nat.le_of_ble_eq_true rfl, Nat.le_of_ble_eq_true rfl, Nat.le_of_ble_eq_true rfl, cal_93⟩, rfl, gw_365, gw_91, gw_92, _, rfl, rfl⟩) <| 
  mA0 rfl <| 
  mA0 rfl <| 
  mA0 rfl <| 
  mA0 rfl <| 
  mA0 rfl <| 
  mA1 rfl (⟨_, rfl, Nat.le_of_ble_eq_true rfl, gw_309, rfl⟩) <| 
  mA0 rfl <| 
  mA0 rfl <| 
  mA0 rfl <| 
  mA1 rfl (⟨⟨Nat.le_of_ble_eq_true rfl, Nat.le_of_ble_eq_true rfl, Nat.le_of_ble_eq_true rfl, cal_171⟩, rfl, gw_463, gw_465, gs_171, _, rfl, rfl⟩) <| 
  mA1 rfl (⟨⟨Nat.le_of_ble_eq_true rfl, Nat.le_of_ble_eq_true rfl, Nat.le_of_ble_eq_true rfl, cal_51⟩, rfl, gw_659, gw_660, gw_661, _, rfl, rfl⟩) <| 
  mA0 rfl <| 
  mA0 rfl <| 
  mA0 rfl <| 
  mA0 rfl <| 
  mA0 rfl <| 
  mA0 rfl <| 
  mA1 rfl (⟨⟨Nat.le_of_ble_eq_true rfl, Nat.le_of_ble_eq_true rfl, Nat.le_of_ble_eq_true rfl, cal_191⟩, rfl, gw_638, gw_640, gs_191, _, rfl, rfl⟩) <| 
  mA0 rfl <| 
  mA0 rfl <| 
  mA1 rfl (rfl) <| trivial

theorem mc_191 : mAllP 191 mt_191 :=
  mA0 rfl <| 
  mA1 rfl (⟨⟨Nat.le_of_ble_eq_true rfl, Nat.le_of_ble_eq_true rfl, Nat.le_of_ble_eq_true rfl, cal_93⟩, rfl, gw_365, gw_91, gw_92, _, rfl, rfl⟩) <| 
  mA0 rfl <| 
  mA0 rfl <| 
  mA0 rfl <| 
  mA0 rfl <| 
  mA0 rfl <| 
  mA0 rfl <| 
  mA0 rfl <| 
  mA0 rfl <| 
  mA0 rfl <| 
  mA1 rfl (⟨⟨Nat.le_of_ble_eq_true rfl, Nat.le_of_ble_eq_true rfl, Nat.le_of_ble_eq_true rfl, cal_95⟩, rfl, gw_569, gw_95, gw_96, _, rfl, rfl⟩) <| 
  mA1 rfl (⟨⟨Nat.le_of_ble_eq_true rfl, Nat.le_of_ble_eq_true rfl, Nat.le_of_ble_eq_true rfl, cal_170⟩, rfl, gw_499, gw_501, gs_170, _, rfl, rfl⟩) <| 
  mA0 rfl <| 
  mA0 rfl <| 
  mA1 rfl (⟨⟨Nat.le_of_ble_eq_true rfl, Nat.le_of_ble_eq_true rfl, Nat.le_of_ble_eq_true rfl, cal_170⟩, rfl, gw_499, gw_501, gs_170, _, rfl, rfl⟩) <| 
  mA1 rfl (⟨⟨Nat.le_of_ble_eq_true rfl, Nat.le_of_ble_eq_true rfl, Nat.le_of_ble_eq_true rfl, cal_192⟩, gw_643, Or.inl gw_642⟩) <| 
  mA0 rfl <| 
  mA0 rfl <| 
  mA0 rfl <| 
  mA0 rfl <| 
  mA0 rfl <| 
  mA0 rfl <| 
  mA1 rfl (⟨⟨Nat.le_of_ble_eq_true rfl, Nat.le_of_ble_eq_true rfl, Nat.le_of_ble_eq_true rfl, cal_98⟩, rfl, gw_651, gw_652, gw_653, _, rfl, rfl⟩) <| 
  mA1 rfl (rfl) <| trivial

theorem mc_192 : mAllP 192 mt_192 :=
  mA0 rfl <| 
  mA1 rfl (⟨⟨Nat.le_of_ble_eq_true rfl, Nat.le_of_ble_eq_true rfl, Nat.le_of_ble_eq_true rfl, cal_93⟩, rfl, gw_365, gw_91, gw_92, _, rfl, rfl⟩) <| 
  mA0 rfl <| 
  mA1 rfl (⟨⟨Nat.le_of_ble_eq_true rfl, Nat.le_of_ble_eq_true rfl, Nat.le_of_ble_eq_true rfl, cal_93⟩, rfl, gw_365, gw_91, gw_92, _, rfl, rfl⟩) <| 
  mA1 rfl (⟨⟨Nat.le_of_ble_eq_true rfl, Nat.le_of_ble_eq_true rfl, Nat.le_of_ble_eq_true rfl, cal_330⟩, gw_646, Or.inl gw_645⟩) <| 
  mA0 rfl <| 
  mA0 rfl <| 
  mA0 rfl <| 
  mA0 rfl <| 
  mA0 rfl <| 
  mA0 rfl <| 
  mA0 rfl <| 
  mA0 rfl <| 
  mA1 rfl (⟨⟨Nat.le_of_ble_eq_true rfl, Nat.le_of_ble_eq_true rfl, Nat.le_of_ble_eq_true rfl, cal_95⟩, rfl, gw_569, gw_95, gw_96, _, rfl, rfl⟩) <| 
  mA0 rfl <| 
  mA0 rfl <| 
  mA1 rfl (⟨⟨Nat.le_of_ble_eq_true rfl, Nat.le_of_ble_eq_true rfl, Nat.le_of_ble_eq_true rfl, cal_95⟩, rfl, gw_569, gw_95, gw_96, _, rfl, rfl⟩) <| 
  mA0 rfl <| 
  mA0 rfl <| 
  mA0 rfl <| 
  mA1 rfl (⟨⟨Nat.le_of_ble_eq_true rfl, Nat.le_of_ble_eq_true rfl, Nat.le_of_ble_eq_true rfl, cal_95⟩, rfl, gw_569, gw_95, gw_96, _, rfl, rfl⟩) <| 
  mA0 rfl <| 
  mA0 rfl <| 
  mA1 rfl (⟨⟨Nat.le_of_ble_eq_true rfl, Nat.le_of_ble_eq_true rfl, Nat.le_of_ble_eq_true rfl, cal_95⟩, rfl, gw_569, gw_95, gw_96, _, rfl, rfl⟩) <| 
  mA0 rfl <| 
  mA0 rfl <| 
  mA0 rfl <| 
  mA0 rfl <| 
  mA1 rfl (Or.inl ⟨rfl, rfl⟩) <| 
  mA0 rfl <| 
  mA0 rfl <| 
  mA0 rfl <| 
  mA1 rfl (⟨⟨Nat.le_of_ble_eq_true rfl, Nat.le_of_ble_eq_true rfl, Nat.le_of_ble_eq_true rfl, cal_93⟩, rfl, gw_365, gw_91, gw_92, _, rfl, rfl⟩) <| 
  mA0 rfl <| 
  mA1 rfl (⟨⟨Nat.le_of_ble_eq_true rfl, Nat.le_of_ble_eq_true rfl, Nat.le_of_ble_eq_true rfl, cal_93⟩, rfl, gw_365, gw_91, gw_92, _, rfl, rfl⟩) <| 
  mA1 rfl (⟨⟨Nat.le_of_ble_eq_true rfl, Nat.le_of_ble_eq_true rfl, Nat.le_of_ble_eq_true rfl, cal_327⟩, gw_649, Or.inl gw_648⟩) <| 
  mA1 rfl (Or.inl ⟨rfl, rfl⟩) <| trivial

theorem mc_193 : mAllP 193 mt_193 :=
  mA0 rfl <| 
  mA0 rfl <| 
  mA1 rfl (⟨⟨Nat.le_of_ble_eq_true rfl, Nat.le_of_ble_eq_true rfl, Nat.le_of_ble_eq_true rfl, cal_50⟩, rfl, gw_471, gw_472, gw_473, _, rfl, rfl⟩) <| 
  mA1 rfl (⟨⟨Nat.le_of_ble_eq_true rfl, Nat.le_of_ble_eq_true rfl, Nat.le_of_ble_eq_true rfl, cal_169⟩, rfl, gw_475, gw_477, gs_169, _, rfl, rfl⟩) <| 
  mA0 rfl <| 
  mA0 rfl <| 
  mA1 rfl (⟨⟨Nat.le_of_ble_eq_true rfl, Nat.le_of_ble_eq_true rfl, Nat.le_of_ble_eq_true rfl, cal_100⟩, rfl, gw_366, gw_87, gw_88, _, rfl, rfl⟩) <| 
  mA0 rfl <| 
  mA0 rfl <| 
  mA0 rfl <| 
  mA1 rfl (⟨⟨Nat.le_of_ble_eq_true rfl, Nat.le_of_ble_eq_true rfl, Nat.le_of_ble_eq_true rfl, cal_56⟩, rfl, gw_479, gw_480, gw_481, _, rfl, rfl⟩) <| 
  mA0 rfl <| 
  mA1 rfl (⟨⟨Nat.le_of_ble_eq_true rfl, Nat.le_of_ble_eq_true rfl, Nat.le_of_ble_eq_true rfl, cal_93⟩, rfl, gw_365, gw_91, gw_92, _, rfl, rfl⟩) <| 
  mA1 rfl (⟨⟨Nat.le_of_ble_eq_true rfl, Nat.le_of_ble_eq_true rfl, Nat.le_of_ble_eq_true rfl, cal_101⟩, rfl, gw_483, gw_484, gw_485, _, rfl, rfl⟩) <| 
  mA0 rfl <| 
  mA1 rfl (⟨⟨Nat.le_of_ble_eq_true rfl, Nat.le_of_ble_eq_true rfl, Nat.le_of_ble_eq_true rfl, cal_57⟩, rfl, gw_490, gw_491, gw_492, _, rfl, rfl⟩) <| 
  mA0 rfl <| 
  mA0 rfl <| 
  mA0 rfl <| 
  mA1 rfl (⟨⟨Nat.le_of_ble_eq_true rfl, Nat.le_of_ble_eq_true rfl, Nat.le_of_ble_eq_true rfl, cal_97⟩, rfl, gw_494, gw_79, gw_80, _, rfl, rfl⟩) <| 
  mA0 rfl <| 
  mA0 rfl <| 
  mA0 rfl <| 
  mA0 rfl <| 
  mA1 rfl (⟨⟨Nat.le_of_ble_eq_true rfl, Nat.le_of_ble_eq_true rfl, Nat.le_of_ble_eq_true rfl, cal_56⟩, rfl, gw_479, gw_480, gw_481, _, rfl, rfl⟩) <| 
  mA1 rfl (⟨⟨Nat.le_of_ble_eq_true rfl, Nat.le_of_ble_eq_true rfl, Nat.le_of_ble_eq_true rfl, cal_101⟩, rfl, gw_483, gw_484, gw_485, _, rfl, rfl⟩) <| 
  mA1 rfl (rfl) <| trivial

theorem mc_194 : mAllP 194 mt_194 :=
  mA0 rfl <| 
  mA0 rfl <| 
  mA1 rfl (⟨⟨Nat.le_of_ble_eq_true rfl, Nat.le_of_ble_eq_true rfl, Nat.le_of_ble_eq_true rfl, cal_171⟩, rfl, gw_463, gw_465, gs_171, _, rfl, rfl⟩) <| 
  mA1 rfl (⟨⟨Nat.le_of_ble_eq_true rfl, Nat.le_of_ble_eq_true rfl, Nat.le_of_ble_eq_true rfl, cal_51⟩, rfl, gw_659, gw_660, gw_661, _, rfl, rfl⟩) <| 
  mA0 rfl <| 
  mA0 rfl <| 
  mA0 rfl <| 
  mA0 rfl <| 
  mA0 rfl <| 
  mA0 rfl <| 
  mA0 rfl <| 
  mA0 rfl <| 
  mA0 rfl <| 
  mA0 rfl <| 
  mA0 rfl <| 
  mA1 rfl (⟨⟨Nat.le_of_ble_eq_true rfl, Nat.le_of_ble_eq_true rfl, Nat.le_of_ble_eq_true rfl, cal_172⟩, rfl, gw_495, gw_497, gs_172, _, rfl, rfl⟩) <| 
  mA0 rfl <| 
  mA0 rfl <| 
  mA1 rfl (⟨⟨Nat.le_of_ble_eq_true rfl, Nat.le_of_ble_eq_true rfl, Nat.le_of_ble_eq_true rfl, cal_173⟩, rfl, gw_446, gw_448, gs_173, _, rfl, rfl⟩) <| 
  mA0 rfl <| 
  mA1 rfl (⟨⟨Nat.le_of_ble_eq_true rfl, Nat.le_of_ble_eq_true rfl, Nat.le_of_ble_eq_true rfl, cal_82⟩, rfl, gw_1103, gw_1104, gw_1105, _, rfl, rfl⟩) <| 
  mA1 rfl (⟨⟨Nat.le_of_ble_eq_true rfl, Nat.le_of_ble_eq_true rfl, Nat.le_of_ble_eq_true rfl, cal_195⟩, rfl, gw_1108, gw_1110, gs_195, _, rfl, rfl⟩) <| 
  mA0 rfl <| 
  mA0 rfl <| 
  mA0 rfl <| 
  mA0 rfl <| 
  mA1 rfl (⟨⟨Nat.le_of_ble_eq_true rfl, Nat.le_of_ble_eq_true rfl, Nat.le_of_ble_eq_true rfl, cal_171⟩, rfl, gw_463, gw_465, gs_171, _, rfl, rfl⟩) <| 
  mA0 rfl <| 
  mA1 rfl (⟨_, rfl, Nat.le_of_ble_eq_true rfl, gw_317, rfl⟩) <| 
  mA1 rfl (⟨⟨Nat.le_of_ble_eq_true rfl, Nat.le_of_ble_eq_true rfl, Nat.le_of_ble_eq_true rfl, cal_193⟩, rfl, gw_467, gw_469, gs_193, _, rfl, rfl⟩) <| 
  mA0 rfl <| 
  mA1 rfl (⟨_, rfl, Nat.le_of_ble_eq_true rfl, gw_317, rfl⟩) <| 
  mA1 rfl (⟨⟨Nat.le_of_ble_eq_true rfl, Nat.le_of_ble_eq_true rfl, Nat.le_of_ble_eq_true rfl, cal_196⟩, gw_1115, Or.inl gw_1114⟩) <| 
  mA0 rfl <| 
  mA0 rfl <| 
  mA0 rfl <| 
  mA0 rfl <| 
  mA0 rfl <| 
  mA0 rfl <| 
  mA0 rfl <| 
  mA0 rfl <| 
  mA1 rfl (⟨⟨Nat.le_of_ble_eq_true rfl, Nat.le_of_ble_eq_true rfl, Nat.le_of_ble_eq_true rfl, cal_183⟩, gw_1119, Or.inl gw_1118⟩) <| 
  mA0 rfl <| 
  mA1 rfl (⟨⟨Nat.le_of_ble_eq_true rfl, Nat.le_of_ble_eq_true rfl, Nat.le_of_ble_eq_true rfl, cal_183⟩, gw_1119, Or.inl gw_1118⟩) <| 
  mA0 rfl <| 
  mA0 rfl <| 
  mA1 rfl (Or.inl ⟨rfl, rfl⟩) <| 
  mA0 rfl <| 
  mA0 rfl <| 
  mA0 rfl <| 
  mA1 rfl (Or.inl ⟨rfl, rfl⟩) <| trivial

theorem mc_195 : mAllP 195 mt_195 :=
  mA0 rfl <| 
  mA0 rfl <| 
  mA0 rfl <| 
  mA0 rfl <| 
  mA0 rfl <| 
  mA0 rfl <| 
  mA0 rfl <| 
  mA0 rfl <| 
  mA0 rfl <| 
  mA0 rfl <| 
  mA1 rfl (⟨_, rfl, Nat.le_of_ble_eq_true rfl, gw_307, rfl⟩) <| 
  mA0 rfl <| 
  mA0 rfl <| 
  mA0 rfl <| 
  mA0 rfl <| 
  mA0 rfl <| 
  mA1 rfl (⟨⟨Nat.le_of_ble_eq_true rfl, Nat.le_of_ble_eq_true rfl, Nat.le_of_ble_eq_true rfl, cal_185⟩, gw_76, Or.inl gw_1112⟩) <| 
  mA1 rfl (⟨⟨Nat.le_of_ble_eq_true rfl, Nat.le_of_ble_eq_true rfl, Nat.le_of_ble_eq_true rfl, cal_114⟩, rfl, gw_1113, gw_551, gw_552, _, rfl, rfl⟩) <| 
  mA0 rfl <| 
  mA0 rfl <| 
  mA0 rfl <| 
  mA0 rfl <| 
  mA0 rfl <| 
  mA0 rfl <| 
  mA0 rfl <| 
  mA0 rfl <| 
  mA0 rfl <| 
  mA0 rfl <| 
  mA0 rfl <| 
  mA0 rfl <| 
  mA0 rfl <| 
  mA0 rfl <| 
  mA0 rfl <| 
  mA0 rfl <| 
  mA1 rfl (Or.inl ⟨rfl, rfl⟩) <| trivial

theorem mc_196 : mAllP 196 mt_196 :=
  mA0 rfl <| 
  mA0 rfl <| 
  mA0 rfl <| 
  mA0 rfl <| 
  mA1 rfl (⟨⟨Nat.le_of_ble_eq_true rfl, Nat.le_of_ble_eq_true rfl, Nat.le_of_ble_eq_true rfl, cal_93⟩, rfl, gw_365, gw_91, gw_92, _, rfl, rfl⟩) <| 
  mA0 rfl <| 
  mA0 rfl <| 
  mA0 rfl <| 
  mA1 rfl (⟨⟨Nat.le_of_ble_eq_true rfl, Nat.le_of_ble_eq_true rfl, Nat.le_of_ble_eq_true rfl, cal_95⟩, rfl, gw_569, gw_95, gw_96, _, rfl, rfl⟩) <| 
  mA1 rfl (⟨⟨Nat.le_of_ble_eq_true rfl, Nat.le_of_ble_eq_true rfl, Nat.le_of_ble_eq_true rfl, cal_178⟩, gw_844, Or.inl gw_1117⟩) <| 
  mA0 rfl <| 
  mA0 rfl <| 
  mA0 rfl <| 
  mA1 rfl (⟨⟨Nat.le_of_ble_eq_true rfl, Nat.le_of_ble_eq_true rfl, Nat.le_of_ble_eq_true rfl, cal_95⟩, rfl, gw_569, gw_95, gw_96, _, rfl, rfl⟩) <| 
  mA1 rfl (Or.inl ⟨rfl, rfl⟩) <| 
  mA0 rfl <| 
  mA0 rfl <| 
  mA0 rfl <| 
  mA1 rfl (Or.inl ⟨rfl, rfl⟩) <| trivial

theorem mc_197 : mAllP 197 mt_197 :=
  mA0 rfl <| 
  mA0 rfl <| 
  mA0 rfl <| 
  mA0 rfl <| 
  mA0 rfl <| 
  mA0 rfl <| 
  mA1 rfl (⟨_, rfl, Nat.le_of_ble_eq_true rfl, gw_309, rfl⟩) <| 
  mA0 rfl <| 
  mA0 rfl <| 
  mA0 rfl <| 
  mA0 rfl <| 
  mA0 rfl <| 
  mA0 rfl <| 
  mA1 rfl (⟨⟨Nat.le_of_ble_eq_true rfl, Nat.le_of_ble_eq_true rfl, Nat.le_of_ble_eq_true rfl, cal_198⟩, rfl, gw_771, gw_773, gs_198, _, rfl, rfl⟩) <| 
  mA0 rfl <| 
  mA0 rfl <| 
  mA1 rfl (Or.inl ⟨rfl, rfl⟩) <| 
  mA0 rfl <| 
  mA0 rfl <| 
  mA1 rfl (⟨⟨Nat.le_of_ble_eq_true rfl, Nat.le_of_ble_eq_true rfl, Nat.le_of_ble_eq_true rfl, cal_171⟩, rfl, gw_463, gw_465, gs_171, _, rfl, rfl⟩) <| 
  mA1 rfl (⟨⟨Nat.le_of_ble_eq_true rfl, Nat.le_of_ble_eq_true rfl, Nat.le_of_ble_eq_true rfl, cal_67⟩, rfl, gw_783, gw_784, gw_785, _, rfl, rfl⟩) <| 
  mA0 rfl <| 
  mA0 rfl <| 
  mA0 rfl <| 
  mA0 rfl <| 
  mA1 rfl (Or.inl ⟨rfl, rfl⟩) <| trivial

theorem mc_198 : mAllP 198 mt_198 :=
  mA0 rfl <| 
  mA0 rfl <| 
  mA0 rfl <| 
  mA0 rfl <| 
  mA1 rfl (⟨_, rfl, Nat.le_of_ble_eq_true rfl, gw_309, rfl⟩) <| 
  mA0 rfl <| 
  mA0 rfl <| 
  mA0 rfl <| 
  mA0 rfl <| 
  mA0 rfl <| 
  mA0 rfl <| 
  mA1 rfl (⟨⟨Nat.le_of_ble_eq_true rfl, Nat.le_of_ble_eq_true rfl, Nat.le_of_ble_eq_true rfl, cal_171⟩, rfl, gw_463, gw_465, gs_171, _, rfl, rfl⟩) <| 
  mA1 rfl (⟨⟨Nat.le_of_ble_eq_true rfl, Nat.le_of_ble_eq_true rfl, Nat.le_of_ble_eq_true rfl, cal_51⟩, rfl, gw_659, gw_660, gw_661, _, rfl, rfl⟩) <| 
  mA0 rfl <| 
  mA0 rfl <| 
  mA0 rfl <| 
  mA0 rfl <| 
  mA0 rfl <| 
  mA0 rfl <| 
  mA0 rfl <| 
  mA0 rfl <| 
  mA0 rfl <| 
  mA0 rfl <| 
  mA1 rfl (⟨⟨Nat.le_of_ble_eq_true rfl, Nat.le_of_ble_eq_true rfl, Nat.le_of_ble_eq_true rfl, cal_171⟩, rfl, gw_463, gw_465, gs_171, _, rfl, rfl⟩) <| 
  mA1 rfl (⟨⟨Nat.le_of_ble_eq_true rfl, Nat.le_of_ble_eq_true rfl, Nat.le_of_ble_eq_true rfl, cal_59⟩, rfl, gw_775, gw_776, gw_777, _, rfl, rfl⟩) <| 
  mA1 rfl (⟨⟨Nat.le_of_ble_eq_true rfl, Nat.le_of_ble_eq_true rfl, Nat.le_of_ble_eq_true rfl, cal_94⟩, rfl, gw_779, gw_780, gw_781, _, rfl, rfl⟩) <| 
  mA0 rfl <| 
  mA0 rfl <| 
  mA1 rfl (Or.inr ⟨by decide, rfl⟩) <| 
  mA0 rfl <| 
  mA0 rfl <| 
  mA0 rfl <| 
  mA1 rfl (Or.inr ⟨by decide, rfl⟩) <| trivial

theorem mc_199 : mAllP 199 mt_199 :=
  mA0 rfl <| 
  mA0 rfl <| 
  mA0 rfl <| 
  mA0 rfl <| 
  mA0 rfl <| 
  mA0 rfl <| 
  mA1 rfl (⟨_, rfl, Nat.le_of_ble_eq_true rfl, gw_309, rfl⟩) <| 
  mA0 rfl <| 
  mA0 rfl <| 
  mA0 rfl <| 
  mA0 rfl <| 
  mA1 rfl (⟨⟨Nat.le_of_ble_eq_true rfl, Nat.le_of_ble_eq_true rfl, Nat.le_of_ble_eq_true rfl, cal_171⟩, rfl, gw_463, gw_465, gs_171, _, rfl, rfl⟩) <| 
  mA1 rfl (⟨⟨Nat.le_of_ble_eq_true rfl, Nat.le_of_ble_eq_true rfl, Nat.le_of_ble_eq_true rfl, cal_67⟩, rfl, gw_783, gw_784, gw_785, _, rfl, rfl⟩) <| 
  mA0 rfl <| 
  mA0 rfl <| 
  mA0 rfl <| 
  mA0 rfl <| 
  mA0 rfl <| 
  mA0 rfl <| 
  mA0 rfl <| 
  mA0 rfl <| 
  mA0 rfl <| 
  mA0 rfl <| 
  mA1 rfl (⟨⟨Nat.le_of_ble_eq_true rfl, Nat.le_of_ble_eq_true rfl, Nat.le_of_ble_eq_true rfl, cal_171⟩, rfl, gw_463, gw_465, gs_171, _, rfl, rfl⟩) <| 
  mA0 rfl <| 
  mA1 rfl (⟨⟨Nat.le_of_ble_eq_true rfl, Nat.le_of_ble_eq_true rfl, Nat.le_of_ble_eq_true rfl, cal_68⟩, rfl, gw_795, gw_796, gw_797, _, rfl, rfl⟩) <| 
  mA0 rfl <| 
  mA0 rfl <| 
  mA0 rfl <| 
  mA0 rfl <| 
  mA0 rfl <| 
  mA0 rfl <| 
  mA0 rfl <| 
  mA0 rfl <| 
  mA0 rfl <| 
  mA1 rfl (Or.inl ⟨rfl, rfl⟩) <| trivial

theorem mc_200_0 : mAllP 200 mt_200_0 :=
  mA0 rfl <| 
  mA0 rfl <| 
  mA0 rfl <| 
  mA0 rfl <| 
  mA0 rfl <| 
  mA0 rfl <| 
  mA0 rfl <| 
  mA0 rfl <| 
  mA0 rfl <| 
  mA0 rfl <| 
  mA1 rfl (⟨⟨Nat.le_of_ble_eq_true rfl, Nat.le_of_ble_eq_true rfl, Nat.le_of_ble_eq_true rfl, cal_93⟩, rfl, gw_365, gw_91, gw_92, _, rfl, rfl⟩) <| 
  mA0 rfl <| 
  mA0 rfl <| 
  mA0 rfl <| 
  mA1 rfl (⟨⟨Nat.le_of_ble_eq_true rfl, Nat.le_of_ble_eq_true rfl, Nat.le_of_ble_eq_true rfl, cal_95⟩, rfl, gw_569, gw_95, gw_96, _, rfl, rfl⟩) <| 
  mA0 rfl <| 
  mA0 rfl <| 
  mA0 rfl <| 
  mA1 rfl (⟨⟨Nat.le_of_ble_eq_true rfl, Nat.le_of_ble_eq_true rfl, Nat.le_of_ble_eq_true rfl, cal_171⟩, rfl, gw_463, gw_465, gs_171, _, rfl, rfl⟩) <| 
  mA1 rfl (⟨⟨Nat.le_of_ble_eq_true rfl, Nat.le_of_ble_eq_true rfl, Nat.le_of_ble_eq_true rfl, cal_52⟩, rfl, gw_634, gw_635, gw_636, _, rfl, rfl⟩) <| 
  mA0 rfl <| 
  mA0 rfl <| 
  mA0 rfl <| 
  mA0 rfl <| 
  mA0 rfl <| 
  mA0 rfl <| 
  mA0 rfl <| 
  mA0 rfl <| 
  mA1 rfl (⟨⟨Nat.le_of_ble_eq_true rfl, Nat.le_of_ble_eq_true rfl, Nat.le_of_ble_eq_true rfl, cal_194⟩, rfl, gw_1099, gw_1101, gs_194, _, rfl, rfl⟩) <| 
  mA0 rfl <| 
  mA0 rfl <| 
  mA0 rfl <| 
  mA0 rfl <| 
  mA0 rfl <| 
  mA0 rfl <| 
  mA0 rfl <| 
  mA0 rfl <| 
  mA0 rfl <| 
  mA0 rfl <| 
  mA0 rfl <| 
  mA0 rfl <| 
  mA0 rfl <| 
  mA0 rfl <| 
  mA0 rfl <| 
  mA0 rfl <| 
  mA0 rfl <| 
  mA0 rfl <| 
  mA0 rfl <| 
  mA0 rfl <| 
  mA1 rfl (⟨⟨Nat.le_of_ble_eq_true rfl, Nat.le_of_ble_eq_true rfl, Nat.le_of_ble_eq_true rfl, cal_171⟩, rfl, gw_463, gw_465, gs_171, _, rfl, rfl⟩) <| 
  mA1 rfl (⟨⟨Nat.le_of_ble_eq_true rfl, Nat.le_of_ble_eq_true rfl, Nat.le_of_ble_eq_true rfl, cal_202⟩, rfl, gw_1121, gw_1123, gs_202, _, rfl, rfl⟩) <| 
  mA0 rfl <| 
  mA0 rfl <| 
  mA0 rfl <| 
  mA0 rfl <| 
  mA0 rfl <| 
  mA0 rfl <| 
  mA0 rfl <| 
  mA0 rfl <| 
  mA0 rfl <| 
  mA0 rfl <| 
  mA0 rfl <| 
  mA0 rfl <| 
  mA1 rfl (⟨⟨Nat.le_of_ble_eq_true rfl, Nat.le_of_ble_eq_true rfl, Nat.le_of_ble_eq_true rfl, cal_201⟩, rfl, gw_1170, gw_1172, gs_201, _, rfl, rfl⟩) <| 
  mA0 rfl <| 
  mA0 rfl <| 
  mA0 rfl <| 
  mA0 rfl <| 
  mA0 rfl <| 
  mA0 rfl <| 
  mA0 rfl <| 
  mA0 rfl <| 
  mA0 rfl <| 
  mA0 rfl <| 
  mA0 rfl <| 
  mA0 rfl <| 
  mA0 rfl <| 
  mA0 rfl <| 
  mA0 rfl <| 
  mA0 rfl <| 
  mA0 rfl <| 
  mA0 rfl <| 
  mA0 rfl <| 
  mA0 rfl <| 
  mA0 rfl <| 
  mA0 rfl <| 
  mA0 rfl <| 
  mA0 rfl <| 
  mA1 rfl (Or.inl ⟨rfl, rfl⟩) <| 
  mA0 rfl <| 
  mA0 rfl <| 
  mA0 rfl <| 
  mA0 rfl <| 
  mA0 rfl <| 
  mA0 rfl <| 
  mA1 rfl (⟨_, rfl, Nat.le_of_ble_eq_true rfl, gw_314, rfl⟩) <| 
  mA0 rfl <| 
  mA0 rfl <| 
  mA0 rfl <| 
  mA0 rfl <| 
  mA0 rfl <| 
  mA1 rfl (⟨_, rfl, Nat.le_of_ble_eq_true rfl, gw_314, rfl⟩) <| 
  mA0 rfl <| 
  mA1 rfl (⟨⟨Nat.le_of_ble_eq_true rfl, Nat.le_of_ble_eq_true rfl, Nat.le_of_ble_eq_true rfl, cal_329⟩, gw_52, Or.inl gw_1169⟩) <| 
  mA0 rfl <| 
  mA0 rfl <| 
  mA0 rfl <| 
  mA0 rfl <| 
  mA0 rfl <| 
  mA0 rfl <| 
  mA0 rfl <| 
  mA0 rfl <| 
  mA0 rfl <| 
  mA0 rfl <| 
  mA0 rfl <| 
  mA1 rfl (⟨_, rfl, Nat.le_of_ble_eq_true rfl, gw_314, rfl⟩) <| 
  mA0 rfl <| 
  mA0 rfl <| 
  mA0 rfl <| 
  mA0 rfl <| trivial

theorem mc_200_1 : mAllP 200 mt_200_1 :=
  mA0 rfl <| 
  mA0 rfl <| 
  mA1 rfl (Or.inl ⟨rfl, rfl⟩) <| trivial

theorem mc_201 : mAllP 201 mt_201 :=
  mA0 rfl <| 
  mA1 rfl (⟨_, rfl, Nat.le_of_ble_eq_true rfl, gw_314, rfl⟩) <| 
  mA0 rfl <| 
  mA0 rfl <| 
  mA0 rfl <| 
  mA0 rfl <| 
  mA0 rfl <| 
  mA0 rfl <| 
  mA0 rfl <| 
  mA0 rfl <| 
  mA0 rfl <| 
  mA0 rfl <| 
  mA0 rfl <| 
  mA0 rfl <| 
  mA0 rfl <| 
  mA0 rfl <| 
  mA0 rfl <| 
  mA0 rfl <| 
  mA0 rfl <| 
  mA0 rfl <| 
  mA0 rfl <| 
  mA0 rfl <| 
  mA1 rfl (⟨_, rfl, Nat.le_of_ble_eq_true rfl, gw_314, rfl⟩) <| 
  mA0 rfl <| 
  mA0 rfl <| 
  mA0 rfl <| 
  mA0 rfl <| 
  mA0 rfl <| 
  mA0 rfl <| 
  mA0 rfl <| 
  mA0 rfl <| 
  mA0 rfl <| 
  mA1 rfl (Or.inr ⟨by decide, rfl⟩) <| trivial

theorem mc_202 : mAllP 202 mt_202 :=
  mA0 rfl <| 
  mA1 rfl (⟨_, rfl, Nat.le_of_ble_eq_true rfl, gw_300, rfl⟩) <| 
  mA0 rfl <| 
  mA0 rfl <| 
  mA1 rfl (⟨⟨Nat.le_of_ble_eq_true rfl, Nat.le_of_ble_eq_true rfl, Nat.le_of_ble_eq_true rfl, cal_50⟩, rfl, gw_471, gw_472, gw_473, _, rfl, rfl⟩) <| 
  mA1 rfl (⟨⟨Nat.le_of_ble_eq_true rfl, Nat.le_of_ble_eq_true rfl, Nat.le_of_ble_eq_true rfl, cal_169⟩, rfl, gw_475, gw_477, gs_169, _, rfl, rfl⟩) <| 
  mA0 rfl <| 
  mA1 rfl (⟨_, rfl, Nat.le_of_ble_eq_true rfl, gw_317, rfl⟩) <| 
  mA1 rfl (⟨⟨Nat.le_of_ble_eq_true rfl, Nat.le_of_ble_eq_true rfl, Nat.le_of_ble_eq_true rfl, cal_23⟩, rfl, gw_1125, gw_1126, gw_1127, _, rfl, rfl⟩) <| 
  mA0 rfl <| 
  mA1 rfl (⟨_, rfl, Nat.le_of_ble_eq_true rfl, gw_319, rfl⟩) <| 
  mA0 rfl <| 
  mA1 rfl (⟨⟨Nat.le_of_ble_eq_true rfl, Nat.le_of_ble_eq_true rfl, Nat.le_of_ble_eq_true rfl, cal_59⟩, rfl, gw_775, gw_776, gw_777, _, rfl, rfl⟩) <| 
  mA1 rfl (⟨⟨Nat.le_of_ble_eq_true rfl, Nat.le_of_ble_eq_true rfl, Nat.le_of_ble_eq_true rfl, cal_74⟩, rfl, gw_1131, gw_1132, gw_1133, _, rfl, rfl⟩) <| 
  mA0 rfl <| 
  mA1 rfl (⟨_, rfl, Nat.le_of_ble_eq_true rfl, gw_317, rfl⟩) <| 
  mA1 rfl (⟨⟨Nat.le_of_ble_eq_true rfl, Nat.le_of_ble_eq_true rfl, Nat.le_of_ble_eq_true rfl, cal_93⟩, rfl, gw_365, gw_91, gw_92, _, rfl, rfl⟩) <| 
  mA0 rfl <| 
  mA0 rfl <| 
  mA1 rfl (⟨_, rfl, Nat.le_of_ble_eq_true rfl, gw_319, rfl⟩) <| 
  mA1 rfl (⟨⟨Nat.le_of_ble_eq_true rfl, Nat.le_of_ble_eq_true rfl, Nat.le_of_ble_eq_true rfl, cal_72⟩, rfl, gw_1155, gw_1156, gw_1157, _, rfl, rfl⟩) <| 
  mA0 rfl <| 
  mA0 rfl <| 
  mA0 rfl <| 
  mA0 rfl <| 
  mA1 rfl (⟨⟨Nat.le_of_ble_eq_true rfl, Nat.le_of_ble_eq_true rfl, Nat.le_of_ble_eq_true rfl, cal_69⟩, rfl, gw_1159, gw_1160, gw_1161, _, rfl, rfl⟩) <| 
  mA0 rfl <| 
  mA0 rfl <| 
  mA0 rfl <| 
  mA0 rfl <| 
  mA0 rfl <| 
  mA1 rfl (⟨⟨Nat.le_of_ble_eq_true rfl, Nat.le_of_ble_eq_true rfl, Nat.le_of_ble_eq_true rfl, cal_57⟩, rfl, gw_490, gw_491, gw_492, _, rfl, rfl⟩) <| 
  mA0 rfl <| 
  mA0 rfl <| 
  mA0 rfl <| 
  mA0 rfl <| 
  mA0 rfl <| 
  mA0 rfl <| 
  mA0 rfl <| 
  mA0 rfl <| 
  mA1 rfl (⟨⟨Nat.le_of_ble_eq_true rfl, Nat.le_of_ble_eq_true rfl, Nat.le_of_ble_eq_true rfl, cal_67⟩, rfl, gw_783, gw_784, gw_785, _, rfl, rfl⟩) <| 
  mA0 rfl <| 
  mA0 rfl <| 
  mA0 rfl <| 
  mA0 rfl <| 
  mA0 rfl <| 
  mA0 rfl <| 
  mA0 rfl <| 
  mA0 rfl <| 
  mA0 rfl <| 
  mA1 rfl (⟨⟨Nat.le_of_ble_eq_true rfl, Nat.le_of_ble_eq_true rfl, Nat.le_of_ble_eq_true rfl, cal_52⟩, rfl, gw_634, gw_635, gw_636, _, rfl, rfl⟩) <| 
  mA0 rfl <| 
  mA0 rfl <| 
  mA0 rfl <| 
  mA0 rfl <| 
  mA0 rfl <| 
  mA0 rfl <| 
  mA0 rfl <| 
  mA0 rfl <| 
  mA1 rfl (⟨_, rfl, Nat.le_of_ble_eq_true rfl, gw_313, rfl⟩) <| 
  mA0 rfl <| 
  mA0 rfl <| 
  mA0 rfl <| 
  mA0 rfl <| 
  mA1 rfl (⟨_, rfl, Nat.le_of_ble_eq_true rfl, gw_313, rfl⟩) <| 
  mA0 rfl <| 
  mA1 rfl (⟨⟨Nat.le_of_ble_eq_true rfl, Nat.le_of_ble_eq_true rfl, Nat.le_of_ble_eq_true rfl, cal_329⟩, gw_52, Or.inl gw_1169⟩) <| 
  mA0 rfl <| 
  mA1 rfl (Or.inl ⟨rfl, rfl⟩) <| trivial

theorem mc_203 : mAllP 203 mt_203 :=
  mA0 rfl <| 
  mA0 rfl <| 
  mA0 rfl <| 
  mA0 rfl <| 
  mA1 rfl (⟨_, rfl, Nat.le_of_ble_eq_true rfl, gw_304, rfl⟩) <| 
  mA0 rfl <| 
  mA0 rfl <| 
  mA1 rfl (⟨_, rfl, Nat.le_of_ble_eq_true rfl, gw_315, rfl⟩) <| 
  mA0 rfl <| 
  mA1 rfl (⟨_, rfl, Nat.le_of_ble_eq_true rfl, gw_305, rfl⟩) <| 
  mA0 rfl <| 
  mA1 rfl (⟨Nat.le_of_ble_eq_true rfl, Nat.le_of_ble_eq_true rfl⟩) <| 
  mA0 rfl <| 
  mA0 rfl <| 
  mA0 rfl <| 
  mA1 rfl (⟨⟨Nat.le_of_ble_eq_true rfl, Nat.le_of_ble_eq_true rfl, Nat.le_of_ble_eq_true rfl, cal_169⟩, rfl, gw_475, gw_477, gs_169, _, rfl, rfl⟩) <| 
  mA0 rfl <| 
  mA0 rfl <| 
  mA1 rfl (⟨⟨Nat.le_of_ble_eq_true rfl, Nat.le_of_ble_eq_true rfl, Nat.le_of_ble_eq_true rfl, cal_170⟩, rfl, gw_499, gw_501, gs_170, _, rfl, rfl⟩) <| 
  mA1 rfl (⟨⟨Nat.le_of_ble_eq_true rfl, Nat.le_of_ble_eq_true rfl, Nat.le_of_ble_eq_true rfl, cal_2⟩, rfl, gw_503, gw_504, gw_505, _, rfl, rfl⟩) <| 
  mA0 rfl <| 
  mA0 rfl <| 
  mA0 rfl <| 
  mA1 rfl (⟨_, rfl, Nat.le_of_ble_eq_true rfl, gw_318, rfl⟩) <| 
  mA1 rfl (⟨⟨Nat.le_of_ble_eq_true rfl, Nat.le_of_ble_eq_true rfl, Nat.le_of_ble_eq_true rfl, cal_100⟩, rfl, gw_366, gw_87, gw_88, _, rfl, rfl⟩) <| 
  mA0 rfl <| 
  mA0 rfl <| 
  mA0 rfl <| 
  mA0 rfl <| 
  mA1 rfl (⟨_, rfl, Nat.le_of_ble_eq_true rfl, gw_311, rfl⟩) <| 
  mA1 rfl (⟨⟨Nat.le_of_ble_eq_true rfl, Nat.le_of_ble_eq_true rfl, Nat.le_of_ble_eq_true rfl, cal_25⟩, rfl, gw_692, gw_693, gw_694, _, rfl, rfl⟩) <| 
  mA0 rfl <| 
  mA0 rfl <| 
  mA1 rfl (⟨_, rfl, Nat.le_of_ble_eq_true rfl, gw_311, rfl⟩) <| 
  mA0 rfl <| 
  mA0 rfl <| 
  mA1 rfl (⟨⟨Nat.le_of_ble_eq_true rfl, Nat.le_of_ble_eq_true rfl, Nat.le_of_ble_eq_true rfl, cal_32⟩, rfl, gw_1049, gw_1026, gw_1027, _, rfl, rfl⟩) <| 
  mA0 rfl <| 
  mA0 rfl <| 
  mA0 rfl <| 
  mA0 rfl <| 
  mA0 rfl <| 
  mA0 rfl <| 
  mA0 rfl <| 
  mA0 rfl <| 
  mA1 rfl (⟨⟨Nat.le_of_ble_eq_true rfl, Nat.le_of_ble_eq_true rfl, Nat.le_of_ble_eq_true rfl, cal_204⟩, rfl, gw_1050, gw_1052, gs_204, _, rfl, rfl⟩) <| 
  mA0 rfl <| 
  mA0 rfl <| 
  mA1 rfl (rfl) <| trivial

theorem mc_204 : mAllP 204 mt_204 :=
  mA0 rfl <| 
  mA1 rfl (⟨_, rfl, Nat.le_of_ble_eq_true rfl, gw_318, rfl⟩) <| 
  mA1 rfl (⟨⟨Nat.le_of_ble_eq_true rfl, Nat.le_of_ble_eq_true rfl, Nat.le_of_ble_eq_true rfl, cal_93⟩, rfl, gw_365, gw_91, gw_92, _, rfl, rfl⟩) <| 
  mA0 rfl <| 
  mA0 rfl <| 
  mA0 rfl <| 
  mA0 rfl <| 
  mA0 rfl <| 
  mA1 rfl (⟨_, rfl, Nat.le_of_ble_eq_true rfl, gw_318, rfl⟩) <| 
  mA0 rfl <| 
  mA0 rfl <| 
  mA0 rfl <| 
  mA1 rfl (⟨⟨Nat.le_of_ble_eq_true rfl, Nat.le_of_ble_eq_true rfl, Nat.le_of_ble_eq_true rfl, cal_95⟩, rfl, gw_569, gw_95, gw_96, _, rfl, rfl⟩) <| 
  mA0 rfl <| 
  mA0 rfl <| 
  mA1 rfl (⟨⟨Nat.le_of_ble_eq_true rfl, Nat.le_of_ble_eq_true rfl, Nat.le_of_ble_eq_true rfl, cal_205⟩, rfl, gw_1054, gw_1056, gs_205, _, rfl, rfl⟩) <| 
  mA0 rfl <| 
  mA0 rfl <| 
  mA0 rfl <| 
  mA0 rfl <| 
  mA1 rfl (⟨_, rfl, Nat.le_of_ble_eq_true rfl, gw_318, rfl⟩) <| 
  mA0 rfl <| 
  mA0 rfl <| 
  mA1 rfl (⟨⟨Nat.le_of_ble_eq_true rfl, Nat.le_of_ble_eq_true rfl, Nat.le_of_ble_eq_true rfl, cal_98⟩, rfl, gw_651, gw_652, gw_653, _, rfl, rfl⟩) <| 
  mA1 rfl (rfl) <| trivial

theorem mc_205 : mAllP 205 mt_205 :=
  mA0 rfl <| 
  mA0 rfl <| 
  mA0 rfl <| 
  mA0 rfl <| 
  mA0 rfl <| 
  mA0 rfl <| 
  mA0 rfl <| 
  mA1 rfl (⟨⟨Nat.le_of_ble_eq_true rfl, Nat.le_of_ble_eq_true rfl, Nat.le_of_ble_eq_true rfl, cal_206⟩, rfl, gw_1058, gw_1060, gs_206, _, rfl, rfl⟩) <| 
  mA0 rfl <| 
  mA0 rfl <| 
  mA0 rfl <| 
  mA0 rfl <| 
  mA0 rfl <| 
  mA0 rfl <| 
  mA0 rfl <| 
  mA0 rfl <| 
  mA0 rfl <| 
  mA0 rfl <| 
  mA0 rfl <| 
  mA0 rfl <| 
  mA0 rfl <| 
  mA0 rfl <| 
  mA0 rfl <| 
  mA0 rfl <| 
  mA1 rfl (⟨⟨Nat.le_of_ble_eq_true rfl, Nat.le_of_ble_eq_true rfl, Nat.le_of_ble_eq_true rfl, cal_206⟩, rfl, gw_1058, gw_1060, gs_206, _, rfl, rfl⟩) <| 
  mA1 rfl (Or.inl ⟨rfl, rfl⟩) <| trivial

theorem mc_206 : mAllP 206 mt_206 :=
  mA0 rfl <| 
  mA1 rfl (⟨_, rfl, Nat.le_of_ble_eq_true rfl, gw_311, rfl⟩) <| 
  mA0 rfl <| 
  mA1 rfl (⟨⟨Nat.le_of_ble_eq_true rfl, Nat.le_of_ble_eq_true rfl, Nat.le_of_ble_eq_true rfl, cal_26⟩, rfl, gw_1062, gw_1063, gw_1064, _, rfl, rfl⟩) <| 
  mA0 rfl <| 
  mA0 rfl <| 
  mA1 rfl (⟨_, rfl, Nat.le_of_ble_eq_true rfl, gw_311, rfl⟩) <| 
  mA0 rfl <| 
  mA1 rfl (⟨⟨Nat.le_of_ble_eq_true rfl, Nat.le_of_ble_eq_true rfl, Nat.le_of_ble_eq_true rfl, cal_26⟩, rfl, gw_1062, gw_1063, gw_1064, _, rfl, rfl⟩) <| 
  mA0 rfl <| 
  mA0 rfl <| 
  mA1 rfl (⟨_, rfl, Nat.le_of_ble_eq_true rfl, gw_311, rfl⟩) <| 
  mA0 rfl <| 
  mA1 rfl (⟨⟨Nat.le_of_ble_eq_true rfl, Nat.le_of_ble_eq_true rfl, Nat.le_of_ble_eq_true rfl, cal_26⟩, rfl, gw_1062, gw_1063, gw_1064, _, rfl, rfl⟩) <| 
  mA0 rfl <| 
  mA0 rfl <| 
  mA0 rfl <| 
  mA0 rfl <| 
  mA0 rfl <| 
  mA1 rfl (⟨_, rfl, Nat.le_of_ble_eq_true rfl, gw_311, rfl⟩) <| 
  mA0 rfl <| 
  mA1 rfl (⟨⟨Nat.le_of_ble_eq_true rfl, Nat.le_of_ble_eq_true rfl, Nat.le_of_ble_eq_true rfl, cal_26⟩, rfl, gw_1062, gw_1063, gw_1064, _, rfl, rfl⟩) <| 
  mA0 rfl <| 
  mA0 rfl <| 
  mA0 rfl <| 
  mA0 rfl <| 
  mA0 rfl <| 
  mA1 rfl (Or.inl ⟨rfl, rfl⟩) <| 
  mA0 rfl <| 
  mA0 rfl <| 
  mA1 rfl (⟨_, rfl, Nat.le_of_ble_eq_true rfl, gw_311, rfl⟩) <| 
  mA0 rfl <| 
  mA1 rfl (⟨⟨Nat.le_of_ble_eq_true rfl, Nat.le_of_ble_eq_true rfl, Nat.le_of_ble_eq_true rfl, cal_28⟩, rfl, gw_1066, gw_1035, gw_1036, _, rfl, rfl⟩) <| 
  mA1 rfl (⟨⟨Nat.le_of_ble_eq_true rfl, Nat.le_of_ble_eq_true rfl, Nat.le_of_ble_eq_true rfl, cal_170⟩, rfl, gw_499, gw_501, gs_170, _, rfl, rfl⟩) <| 
  mA0 rfl <| 
  mA0 rfl <| 
  mA1 rfl (⟨_, rfl, Nat.le_of_ble_eq_true rfl, gw_311, rfl⟩) <| 
  mA0 rfl <| 
  mA1 rfl (⟨⟨Nat.le_of_ble_eq_true rfl, Nat.le_of_ble_eq_true rfl, Nat.le_of_ble_eq_true rfl, cal_28⟩, rfl, gw_1066, gw_1035, gw_1036, _, rfl, rfl⟩) <| 
  mA1 rfl (⟨⟨Nat.le_of_ble_eq_true rfl, Nat.le_of_ble_eq_true rfl, Nat.le_of_ble_eq_true rfl, cal_170⟩, rfl, gw_499, gw_501, gs_170, _, rfl, rfl⟩) <| 
  mA1 rfl (⟨⟨Nat.le_of_ble_eq_true rfl, Nat.le_of_ble_eq_true rfl, Nat.le_of_ble_eq_true rfl, cal_192⟩, gw_643, Or.inl gw_642⟩) <| 
  mA1 rfl (Or.inl ⟨rfl, rfl⟩) <| trivial

theorem mc_207 : mAllP 207 mt_207 :=
  trivial

theorem mc_208 : mAllP 208 mt_208 :=
  trivial

theorem mc_209 : mAllP 209 mt_209 :=
  trivial

theorem mc_210 : mAllP 210 mt_210 :=
  trivial

theorem mc_211 : mAllP 211 mt_211 :=
  trivial

theorem mc_212 : mAllP 212 mt_212 :=
  trivial

theorem mc_213 : mAllP 213 mt_213 :=
  trivial

theorem mc_214 : mAllP 214 mt_214 :=
  trivial

theorem mc_215 : mAllP 215 mt_215 :=
  trivial

theorem mc_216 : mAllP 216 mt_216 :=
  trivial

theorem mc_217 : mAllP 217 mt_217 :=
  trivial

theorem mc_218 : mAllP 218 mt_218 :=
  trivial

theorem mc_219 : mAllP 219 mt_219 :=
  trivial

theorem mc_220 : mAllP 220 mt_220 :=
  trivial

theorem mc_221 : mAllP 221 mt_221 :=
  trivial

theorem mc_222 : mAllP 222 mt_222 :=
  trivial

theorem mc_223 : mAllP 223 mt_223 :=
  trivial

theorem mc_224 : mAllP 224 mt_224 :=
  trivial

theorem mc_225 : mAllP 225 mt_225 :=
  trivial

theorem mc_226 : mAllP 226 mt_226 :=
  trivial

theorem mc_227 : mAllP 227 mt_227 :=
  trivial

theorem mc_228 : mAllP 228 mt_228 :=
  trivial

theorem mc_229 : mAllP 229 mt_229 :=
  trivial

theorem mc_230 : mAllP 230 mt_230 :=
  trivial

theorem mc_231 : mAllP 231 mt_231 :=
  trivial

theorem mc_232 : mAllP 232 mt_232 :=
  trivial

theorem mc_233 : mAllP 233 mt_233 :=
  trivial

theorem mc_234 : mAllP 234 mt_234 :=
  trivial

theorem mc_235 : mAllP 235 mt_235 :=
  trivial

theorem mc_236 : mAllP 236 mt_236 :=
  trivial

theorem mc_237 : mAllP 237 mt_237 :=
  trivial

theorem mc_238 : mAllP 238 mt_238 :=
  trivial

theorem mc_239 : mAllP 239 mt_239 :=
  trivial

theorem mc_240 : mAllP 240 mt_240 :=
  trivial

theorem mc_241 : mAllP 241 mt_241 :=
  trivial

theorem mc_242 : mAllP 242 mt_242 :=
  trivial

theorem mc_243 : mAllP 243 mt_243 :=
  trivial

theorem mc_244 : mAllP 244 mt_244 :=
  trivial

theorem mc_245 : mAllP 245 mt_245 :=
  trivial

theorem mc_246 : mAllP 246 mt_246 :=
  trivial

theorem mc_247 : mAllP 247 mt_247 :=
  trivial

theorem mc_248 : mAllP 248 mt_248 :=
  trivial

theorem mc_249 : mAllP 249 mt_249 :=
  trivial

theorem mc_250 : mAllP 250 mt_250 :=
  trivial

theorem mc_251 : mAllP 251 mt_251 :=
  trivial

theorem mc_252 : mAllP 252 mt_252 :=
  trivial

theorem mc_253 : mAllP 253 mt_253 :=
  trivial

theorem mc_254 : mAllP 254 mt_254 :=
  trivial

theorem mc_255 : mAllP 255 mt_255 :=
  trivial

theorem mc_256 : mAllP 256 mt_256 :=
  trivial

theorem mc_257 : mAllP 257 mt_257 :=
  trivial

theorem mc_258 : mAllP 258 mt_258 :=
  trivial

theorem mc_259 : mAllP 259 mt_259 :=
  trivial

theorem mc_260 : mAllP 260 mt_260 :=
  trivial

theorem mc_261 : mAllP 261 mt_261 :=
  trivial

theorem mc_262 : mAllP 262 mt_262 :=
  trivial

theorem mc_263 : mAllP 263 mt_263 :=
  trivial

theorem mc_264 : mAllP 264 mt_264 :=
  trivial

theorem mc_265 : mAllP 265 mt_265 :=
  trivial

theorem mc_266 : mAllP 266 mt_266 :=
  trivial

theorem mc_267 : mAllP 267 mt_267 :=
  trivial

theorem mc_268 : mAllP 268 mt_268 :=
  trivial

theorem mc_269 : mAllP 269 mt_269 :=
  trivial

theorem mc_270 : mAllP 270 mt_270 :=
  trivial

theorem mc_271 : mAllP 271 mt_271 :=
  trivial

theorem mc_272 : mAllP 272 mt_272 :=
  trivial

theorem mc_273 : mAllP 273 mt_273 :=
  trivial

theorem mc_274 : mAllP 274 mt_274 :=
  trivial

theorem mc_275 : mAllP 275 mt_275 :=
  trivial

theorem mc_276 : mAllP 276 mt_276 :=
  trivial

theorem mc_277 : mAllP 277 mt_277 :=
  trivial

theorem mc_278 : mAllP 278 mt_278 :=
  trivial

theorem mc_279 : mAllP 279 mt_279 :=
  trivial

theorem mc_280 : mAllP 280 mt_280 :=
  trivial

theorem mc_281 : mAllP 281 mt_281 :=
  trivial

theorem mc_282 : mAllP 282 mt_282 :=
  trivial

theorem mc_283 : mAllP 283 mt_283 :=
  trivial

theorem mc_284 : mAllP 284 mt_284 :=
  trivial

theorem mc_285 : mAllP 285 mt_285 :=
  trivial

theorem mc_286 : mAllP 286 mt_286 :=
  trivial

theorem mc_287 : mAllP 287 mt_287 :=
  trivial

theorem mc_288 : mAllP 288 mt_288 :=
  trivial

theorem mc_289 : mAllP 289 mt_289 :=
  trivial

theorem mc_290 : mAllP 290 mt_290 :=
  trivial

theorem mc_291 : mAllP 291 mt_291 :=
  trivial

theorem mc_292 : mAllP 292 mt_292 :=
  trivial

theorem mc_293 : mAllP 293 mt_293 :=
  trivial

theorem mc_294 : mAllP 294 mt_294 :=
  trivial

theorem mc_295 : mAllP 295 mt_295 :=
  trivial

theorem mc_296 : mAllP 296 mt_296 :=
  trivial

theorem mc_297 : mAllP 297 mt_297 :=
  trivial

theorem mc_298 : mAllP 298 mt_298 :=
  trivial

theorem mc_299 : mAllP 299 mt_299 :=
  trivial

theorem mc_300 : mAllP 300 mt_300 :=
  trivial

theorem mc_301 : mAllP 301 mt_301 :=
  trivial

theorem mc_302 : mAllP 302 mt_302 :=
  trivial

theorem mc_303 : mAllP 303 mt_303 :=
  trivial

theorem mc_304 : mAllP 304 mt_304 :=
  trivial

theorem mc_305 : mAllP 305 mt_305 :=
  trivial

theorem mc_306 : mAllP 306 mt_306 :=
  trivial

theorem mc_307 : mAllP 307 mt_307 :=
  trivial

theorem mc_308 : mAllP 308 mt_308 :=
  trivial

theorem mc_309 : mAllP 309 mt_309 :=
  trivial

theorem mc_310 : mAllP 310 mt_310 :=
  trivial

theorem mc_311 : mAllP 311 mt_311 :=
  trivial

theorem mc_312 : mAllP 312 mt_312 :=
  trivial

theorem mc_313 : mAllP 313 mt_313 :=
  trivial

theorem mc_314 : mAllP 314 mt_314 :=
  trivial

theorem mc_315 : mAllP 315 mt_315 :=
  trivial

theorem mc_316 : mAllP 316 mt_316 :=
  trivial

theorem mc_317 : mAllP 317 mt_317 :=
  trivial

theorem mc_318 : mAllP 318 mt_318 :=
  trivial

theorem mc_319 : mAllP 319 mt_319 :=
  trivial

theorem mc_320 : mAllP 320 mt_320 :=
  trivial

theorem mc_321 : mAllP 321 mt_321 :=
  trivial

theorem mc_322 : mAllP 322 mt_322 :=
  trivial

theorem mc_323 : mAllP 323 mt_323 :=
  trivial

theorem mc_324 : mAllP 324 mt_324 :=
  trivial

theorem mc_325 : mAllP 325 mt_325 :=
  trivial

theorem mc_326 : mAllP 326 mt_326 :=
  trivial

theorem mc_327 : mAllP 327 mt_327 :=
  mA0 rfl <| 
  mA0 rfl <| 
  mA0 rfl <| 
  mA0 rfl <| 
  mA0 rfl <| 
  mA0 rfl <| 
  mA0 rfl <| 
  mA0 rfl <| 
  mA0 rfl <| 
  mA0 rfl <| 
  mA0 rfl <| 
  mA1 rfl (Or.inl ⟨rfl, rfl⟩) <| trivial

theorem mc_328 : mAllP 328 mt_328 :=
  mA0 rfl <| 
  mA0 rfl <| 
  mA0 rfl <| 
  mA0 rfl <| 
  mA1 rfl (gw_1166) <| 
  mA0 rfl <| 
  mA0 rfl <| 
  mA0 rfl <| 
  mA0 rfl <| 
  mA1 rfl (gw_1167) <| 
  mA0 rfl <| 
  mA0 rfl <| 
  mA0 rfl <| 
  mA0 rfl <| 
  mA1 rfl (gw_1167) <| 
  mA0 rfl <| 
  mA0 rfl <| 
  mA0 rfl <| 
  mA0 rfl <| 
  mA0 rfl <| 
  mA0 rfl <| 
  mA0 rfl <| 
  mA0 rfl <| 
  mA1 rfl (gw_1168) <| 
  mA0 rfl <| 
  mA0 rfl <| 
  mA0 rfl <| 
  mA0 rfl <| 
  mA0 rfl <| 
  mA0 rfl <| 
  mA0 rfl <| 
  mA0 rfl <| 
  mA0 rfl <| 
  mA0 rfl <| 
  mA0 rfl <| 
  mA0 rfl <| 
  mA0 rfl <| 
  mA0 rfl <| 
  mA0 rfl <| 
  mA0 rfl <| 
  mA0 rfl <| 
  mA1 rfl (Or.inl ⟨rfl, rfl⟩) <| trivial

theorem mc_329 : mAllP 329 mt_329 :=
  mA0 rfl <| 
  mA0 rfl <| 
  mA0 rfl <| 
  mA0 rfl <| 
  mA0 rfl <| 
  mA0 rfl <| 
  mA1 rfl (Or.inl ⟨rfl, rfl⟩) <| trivial

theorem mc_330 : mAllP 330 mt_330 :=
  mA0 rfl <| 
  mA0 rfl <| 
  mA0 rfl <| 
  mA0 rfl <| 
  mA0 rfl <| 
  mA0 rfl <| 
  mA1 rfl (Or.inl ⟨rfl, rfl⟩) <| trivial

theorem mc_331 : mAllP 331 mt_331 :=
  mA0 rfl <| 
  mA0 rfl <| 
  mA0 rfl <| 
  mA0 rfl <| 
  mA1 rfl (⟨⟨Nat.le_of_ble_eq_true rfl, Nat.le_of_ble_eq_true rfl, Nat.le_of_ble_eq_true rfl, cal_128⟩, rfl, gw_817, gw_818, gw_819, _, rfl, rfl⟩) <| 
  mA0 rfl <| 
  mA0 rfl <| 
  mA0 rfl <| 
  mA0 rfl <| 
  mA0 rfl <| 
  mA0 rfl <| 
  mA0 rfl <| 
  mA0 rfl <| 
  mA1 rfl (⟨⟨Nat.le_of_ble_eq_true rfl, Nat.le_of_ble_eq_true rfl, Nat.le_of_ble_eq_true rfl, cal_129⟩, rfl, gw_835, gw_836, gw_837, _, rfl, rfl⟩) <| 
  mA0 rfl <| 
  mA0 rfl <| 
  mA0 rfl <| 
  mA0 rfl <| 
  mA0 rfl <| 
  mA1 rfl (⟨⟨Nat.le_of_ble_eq_true rfl, Nat.le_of_ble_eq_true rfl, Nat.le_of_ble_eq_true rfl, cal_132⟩, rfl, gw_860, gw_861, gw_862, _, rfl, rfl⟩) <| 
  mA0 rfl <| 
  mA0 rfl <| 
  mA0 rfl <| 
  mA0 rfl <| 
  mA0 rfl <| 
  mA0 rfl <| 
  mA0 rfl <| 
  mA1 rfl (⟨⟨Nat.le_of_ble_eq_true rfl, Nat.le_of_ble_eq_true rfl, Nat.le_of_ble_eq_true rfl, cal_133⟩, rfl, gw_888, gw_889, gw_890, _, rfl, rfl⟩) <| 
  mA0 rfl <| 
  mA0 rfl <| 
  mA0 rfl <| 
  mA0 rfl <| 
  mA0 rfl <| 
  mA0 rfl <| 
  mA0 rfl <| 
  mA0 rfl <| 
  mA1 rfl (⟨⟨Nat.le_of_ble_eq_true rfl, Nat.le_of_ble_eq_true rfl, Nat.le_of_ble_eq_true rfl, cal_137⟩, rfl, gw_944, gw_945, gw_946, _, rfl, rfl⟩) <| 
  mA0 rfl <| 
  mA0 rfl <| 
  mA0 rfl <| 
  mA0 rfl <| 
  mA0 rfl <| 
  mA0 rfl <| 
  mA0 rfl <| 
  mA0 rfl <| 
  mA1 rfl (⟨⟨Nat.le_of_ble_eq_true rfl, Nat.le_of_ble_eq_true rfl, Nat.le_of_ble_eq_true rfl, cal_138⟩, rfl, gw_967, gw_968, gw_969, _, rfl, rfl⟩) <| 
  mA0 rfl <| 
  mA0 rfl <| 
  mA0 rfl <| 
  mA0 rfl <| 
  mA0 rfl <| 
  mA0 rfl <| 
  mA0 rfl <| 
  mA0 rfl <| 
  mA1 rfl (⟨⟨Nat.le_of_ble_eq_true rfl, Nat.le_of_ble_eq_true rfl, Nat.le_of_ble_eq_true rfl, cal_139⟩, rfl, gw_980, gw_981, gw_982, _, rfl, rfl⟩) <| 
  mA0 rfl <| 
  mA0 rfl <| 
  mA0 rfl <| 
  mA0 rfl <| 
  mA0 rfl <| 
  mA0 rfl <| 
  mA0 rfl <| 
  mA0 rfl <| 
  mA0 rfl <| 
  mA0 rfl <| 
  mA0 rfl <| 
  mA0 rfl <| 
  mA0 rfl <| 
  mA0 rfl <| 
  mA0 rfl <| 
  mA0 rfl <| 
  mA0 rfl <| 
  mA1 rfl (⟨⟨Nat.le_of_ble_eq_true rfl, Nat.le_of_ble_eq_true rfl, Nat.le_of_ble_eq_true rfl, cal_140⟩, rfl, gw_1007, gw_1008, gw_1009, _, rfl, rfl⟩) <| 
  mA0 rfl <| 
  mA0 rfl <| 
  mA0 rfl <| 
  mA0 rfl <| 
  mA0 rfl <| 
  mA0 rfl <| 
  mA0 rfl <| 
  mA0 rfl <| 
  mA0 rfl <| 
  mA0 rfl <| 
  mA0 rfl <| 
  mA0 rfl <| 
  mA0 rfl <| 
  mA0 rfl <| 
  mA0 rfl <| 
  mA0 rfl <| 
  mA0 rfl <| 
  mA1 rfl (⟨⟨Nat.le_of_ble_eq_true rfl, Nat.le_of_ble_eq_true rfl, Nat.le_of_ble_eq_true rfl, cal_164⟩, rfl, gw_1017, gw_1018, gw_1019, _, rfl, rfl⟩) <| 
  mA0 rfl <| 
  mA0 rfl <| 
  mA0 rfl <| 
  mA0 rfl <| 
  mA0 rfl <| 
  mA0 rfl <| 
  mA0 rfl <| 
  mA1 rfl (⟨⟨Nat.le_of_ble_eq_true rfl, Nat.le_of_ble_eq_true rfl, Nat.le_of_ble_eq_true rfl, cal_157⟩, rfl, gw_1067, gw_1068, gw_1069, _, rfl, rfl⟩) <| 
  mA0 rfl <| 
  mA0 rfl <| 
  mA0 rfl <| 
  mA0 rfl <| 
  mA0 rfl <| 
  mA0 rfl <| 
  mA0 rfl <| 
  mA1 rfl (⟨⟨Nat.le_of_ble_eq_true rfl, Nat.le_of_ble_eq_true rfl, Nat.le_of_ble_eq_true rfl, cal_150⟩, rfl, gw_1072, gw_1073, gw_1074, _, rfl, rfl⟩) <| 
  mA0 rfl <| 
  mA0 rfl <| 
  mA0 rfl <| 
  mA0 rfl <| 
  mA0 rfl <| 
  mA0 rfl <| 
  mA0 rfl <| 
  mA1 rfl (⟨⟨Nat.le_of_ble_eq_true rfl, Nat.le_of_ble_eq_true rfl, Nat.le_of_ble_eq_true rfl, cal_163⟩, rfl, gw_1086, gw_1087, gw_1088, _, rfl, rfl⟩) <| 
  mA0 rfl <| 
  mA0 rfl <| 
  mA1 rfl (⟨⟨Nat.le_of_ble_eq_true rfl, Nat.le_of_ble_eq_true rfl, Nat.le_of_ble_eq_true rfl, cal_130⟩, rfl, gw_1174, gw_1175, gw_1176, _, rfl, rfl⟩) <| 
  mA1 rfl (Or.inl ⟨rfl, rfl⟩) <| trivial

theorem mc_332 : mAllP 332 mt_332 :=
  mA0 rfl <| 
  mA0 rfl <| 
  mA0 rfl <| 
  mA0 rfl <| 
  mA0 rfl <| 
  mA1 rfl (⟨⟨Nat.le_of_ble_eq_true rfl, Nat.le_of_ble_eq_true rfl, Nat.le_of_ble_eq_true rfl, cal_331⟩, gw_815, Or.inl gw_814⟩) <| 
  mA1 rfl (Or.inl ⟨rfl, rfl⟩) <| 
  mA0 rfl <| 
  mA0 rfl <| 
  mA1 rfl (Or.inl ⟨rfl, rfl⟩) <| 
  mA0 rfl <| 
  mA0 rfl <| 
  mA1 rfl (Or.inl ⟨rfl, rfl⟩) <| 
  mA0 rfl <| 
  mA0 rfl <| 
  mA1 rfl (Or.inl ⟨rfl, rfl⟩) <| trivial

theorem mc_333 : mAllP 333 mt_333 :=
  mA0 rfl <| 
  mA0 rfl <| 
  mA0 rfl <| 
  mA0 rfl <| 
  mA0 rfl <| 
  mA0 rfl <| 
  mA0 rfl <| 
  mA0 rfl <| 
  mA0 rfl <| 
  mA0 rfl <| 
  mA0 rfl <| 
  mA0 rfl <| 
  mA0 rfl <| 
  mA0 rfl <| 
  mA0 rfl <| 
  mA1 rfl (⟨⟨Nat.le_of_ble_eq_true rfl, Nat.le_of_ble_eq_true rfl, Nat.le_of_ble_eq_true rfl, cal_148⟩, rfl, gw_1182, gw_1183, gw_1184, _, rfl, rfl⟩) <| 
  mA0 rfl <| 
  mA0 rfl <| 
  mA0 rfl <| 
  mA0 rfl <| 
  mA0 rfl <| 
  mA1 rfl (⟨⟨Nat.le_of_ble_eq_true rfl, Nat.le_of_ble_eq_true rfl, Nat.le_of_ble_eq_true rfl, cal_148⟩, rfl, gw_1182, gw_1183, gw_1184, _, rfl, rfl⟩) <| 
  mA0 rfl <| 
  mA0 rfl <| 
  mA0 rfl <| 
  mA0 rfl <| 
  mA0 rfl <| 
  mA0 rfl <| 
  mA0 rfl <| 
  mA0 rfl <| 
  mA0 rfl <| 
  mA0 rfl <| 
  mA0 rfl <| 
  mA0 rfl <| 
  mA0 rfl <| 
  mA0 rfl <| 
  mA0 rfl <| 
  mA0 rfl <| 
  mA0 rfl <| 
  mA0 rfl <| 
  mA0 rfl <| 
  mA0 rfl <| 
  mA0 rfl <| 
  mA0 rfl <| 
  mA0 rfl <| 
  mA0 rfl <| 
  mA0 rfl <| 
  mA0 rfl <| 
  mA0 rfl <| 
  mA0 rfl <| 
  mA0 rfl <| 
  mA0 rfl <| 
  mA0 rfl <| 
  mA0 rfl <| 
  mA0 rfl <| 
  mA0 rfl <| 
  mA0 rfl <| 
  mA0 rfl <| 
  mA0 rfl <| 
  mA0 rfl <| 
  mA0 rfl <| 
  mA0 rfl <| 
  mA0 rfl <| 
  mA0 rfl <| 
  mA0 rfl <| 
  mA0 rfl <| 
  mA0 rfl <| 
  mA0 rfl <| 
  mA0 rfl <| 
  mA0 rfl <| 
  mA0 rfl <| 
  mA0 rfl <| 
  mA1 rfl (⟨⟨Nat.le_of_ble_eq_true rfl, Nat.le_of_ble_eq_true rfl, Nat.le_of_ble_eq_true rfl, cal_148⟩, rfl, gw_1182, gw_1183, gw_1184, _, rfl, rfl⟩) <| 
  mA0 rfl <| 
  mA0 rfl <| 
  mA0 rfl <| 
  mA0 rfl <| 
  mA0 rfl <| 
  mA0 rfl <| 
  mA0 rfl <| 
  mA0 rfl <| 
  mA0 rfl <| 
  mA0 rfl <| 
  mA0 rfl <| 
  mA0 rfl <| 
  mA0 rfl <| 
  mA0 rfl <| 
  mA0 rfl <| 
  mA0 rfl <| 
  mA1 rfl (Or.inr ⟨by decide, rfl⟩) <| trivial

theorem mc_334_0 : mAllP 334 mt_334_0 :=
  mA0 rfl <| 
  mA0 rfl <| 
  mA0 rfl <| 
  mA0 rfl <| 
  mA0 rfl <| 
  mA0 rfl <| 
  mA0 rfl <| 
  mA0 rfl <| 
  mA0 rfl <| 
  mA0 rfl <| 
  mA0 rfl <| 
  mA0 rfl <| 
  mA0 rfl <| 
  mA0 rfl <| 
  mA0 rfl <| 
  mA0 rfl <| 
  mA1 rfl (⟨⟨Nat.le_of_ble_eq_true rfl, Nat.le_of_ble_eq_true rfl, Nat.le_of_ble_eq_true rfl, cal_153⟩, rfl, gw_1190, gw_1191, gw_1192, _, rfl, rfl⟩) <| 
  mA0 rfl <| 
  mA0 rfl <| 
  mA0 rfl <| 
  mA0 rfl <| 
  mA0 rfl <| 
  mA0 rfl <| 
  mA0 rfl <| 
  mA0 rfl <| 
  mA0 rfl <| 
  mA0 rfl <| 
  mA0 rfl <| 
  mA0 rfl <| 
  mA0 rfl <| 
  mA1 rfl (⟨⟨Nat.le_of_ble_eq_true rfl, Nat.le_of_ble_eq_true rfl, Nat.le_of_ble_eq_true rfl, cal_154⟩, rfl, gw_1205, gw_1206, gw_1207, _, rfl, rfl⟩) <| 
  mA0 rfl <| 
  mA0 rfl <| 
  mA0 rfl <| 
  mA0 rfl <| 
  mA0 rfl <| 
  mA0 rfl <| 
  mA0 rfl <| 
  mA1 rfl (⟨⟨Nat.le_of_ble_eq_true rfl, Nat.le_of_ble_eq_true rfl, Nat.le_of_ble_eq_true rfl, cal_153⟩, rfl, gw_1190, gw_1191, gw_1192, _, rfl, rfl⟩) <| 
  mA0 rfl <| 
  mA0 rfl <| 
  mA0 rfl <| 
  mA0 rfl <| 
  mA0 rfl <| 
  mA0 rfl <| 
  mA0 rfl <| 
  mA0 rfl <| 
  mA0 rfl <| 
  mA0 rfl <| 
  mA0 rfl <| 
  mA0 rfl <| 
  mA0 rfl <| 
  mA0 rfl <| 
  mA0 rfl <| 
  mA0 rfl <| 
  mA0 rfl <| 
  mA0 rfl <| 
  mA0 rfl <| 
  mA0 rfl <| 
  mA0 rfl <| 
  mA0 rfl <| 
  mA0 rfl <| 
  mA0 rfl <| 
  mA0 rfl <| 
  mA0 rfl <| 
  mA0 rfl <| 
  mA0 rfl <| 
  mA1 rfl (⟨⟨Nat.le_of_ble_eq_true rfl, Nat.le_of_ble_eq_true rfl, Nat.le_of_ble_eq_true rfl, cal_153⟩, rfl, gw_1190, gw_1191, gw_1192, _, rfl, rfl⟩) <| 
  mA0 rfl <| 
  mA0 rfl <| 
  mA0 rfl <| 
  mA0 rfl <| 
  mA0 rfl <| 
  mA0 rfl <| 
  mA0 rfl <| 
  mA0 rfl <| 
  mA0 rfl <| 
  mA0 rfl <| 
  mA0 rfl <| 
  mA1 rfl (⟨⟨Nat.le_of_ble_eq_true rfl, Nat.le_of_ble_eq_true rfl, Nat.le_of_ble_eq_true rfl, cal_152⟩, rfl, gw_1213, gw_1214, gw_1215, _, rfl, rfl⟩) <| 
  mA0 rfl <| 
  mA0 rfl <| 
  mA0 rfl <| 
  mA0 rfl <| 
  mA0 rfl <| 
  mA1 rfl (⟨⟨Nat.le_of_ble_eq_true rfl, Nat.le_of_ble_eq_true rfl, Nat.le_of_ble_eq_true rfl, cal_152⟩, rfl, gw_1213, gw_1214, gw_1215, _, rfl, rfl⟩) <| 
  mA0 rfl <| 
  mA0 rfl <| 
  mA0 rfl <| 
  mA0 rfl <| 
  mA0 rfl <| 
  mA0 rfl <| 
  mA1 rfl (⟨⟨Nat.le_of_ble_eq_true rfl, Nat.le_of_ble_eq_true rfl, Nat.le_of_ble_eq_true rfl, cal_152⟩, rfl, gw_1213, gw_1214, gw_1215, _, rfl, rfl⟩) <| 
  mA0 rfl <| 
  mA0 rfl <| 
  mA0 rfl <| 
  mA0 rfl <| 
  mA0 rfl <| 
  mA0 rfl <| 
  mA0 rfl <| 
  mA0 rfl <| 
  mA1 rfl (⟨⟨Nat.le_of_ble_eq_true rfl, Nat.le_of_ble_eq_true rfl, Nat.le_of_ble_eq_true rfl, cal_152⟩, rfl, gw_1213, gw_1214, gw_1215, _, rfl, rfl⟩) <| 
  mA0 rfl <| 
  mA0 rfl <| 
  mA0 rfl <| 
  mA0 rfl <| 
  mA0 rfl <| 
  mA0 rfl <| 
  mA1 rfl (⟨⟨Nat.le_of_ble_eq_true rfl, Nat.le_of_ble_eq_true rfl, Nat.le_of_ble_eq_true rfl, cal_152⟩, rfl, gw_1213, gw_1214, gw_1215, _, rfl, rfl⟩) <| 
  mA0 rfl <| 
  mA0 rfl <| 
  mA0 rfl <| 
  mA0 rfl <| 
  mA0 rfl <| 
  mA0 rfl <| 
  mA0 rfl <| 
  mA0 rfl <| 
  mA0 rfl <| 
  mA0 rfl <| 
  mA0 rfl <| trivial

theorem mc_334_1 : mAllP 334 mt_334_1 :=
  mA0 rfl <| 
  mA0 rfl <| 
  mA0 rfl <| 
  mA0 rfl <| 
  mA0 rfl <| 
  mA0 rfl <| 
  mA0 rfl <| 
  mA0 rfl <| 
  mA0 rfl <| 
  mA0 rfl <| 
  mA0 rfl <| 
  mA0 rfl <| 
  mA0 rfl <| 
  mA1 rfl (Or.inr ⟨by decide, rfl⟩) <| trivial

theorem mc_335 : mAllP 335 mt_335 :=
  mA0 rfl <| 
  mA0 rfl <| 
  mA0 rfl <| 
  mA0 rfl <| 
  mA0 rfl <| 
  mA0 rfl <| 
  mA0 rfl <| 
  mA0 rfl <| 
  mA0 rfl <| 
  mA1 rfl (⟨⟨Nat.le_of_ble_eq_true rfl, Nat.le_of_ble_eq_true rfl, Nat.le_of_ble_eq_true rfl, cal_332⟩, gw_809, Or.inl gw_808⟩) <| 
  mA0 rfl <| 
  mA0 rfl <| 
  mA0 rfl <| 
  mA0 rfl <| 
  mA0 rfl <| 
  mA0 rfl <| 
  mA1 rfl (gw_1225) <| 
  mA0 rfl <| 
  mA0 rfl <| 
  mA0 rfl <| 
  mA0 rfl <| 
  mA0 rfl <| 
  mA0 rfl <| 
  mA0 rfl <| 
  mA0 rfl <| 
  mA0 rfl <| 
  mA0 rfl <| 
  mA0 rfl <| 
  mA0 rfl <| 
  mA0 rfl <| 
  mA0 rfl <| 
  mA0 rfl <| 
  mA0 rfl <| 
  mA0 rfl <| 
  mA0 rfl <| 
  mA0 rfl <| 
  mA0 rfl <| 
  mA0 rfl <| 
  mA0 rfl <| 
  mA0 rfl <| 
  mA0 rfl <| 
  mA0 rfl <| 
  mA0 rfl <| 
  mA0 rfl <| 
  mA0 rfl <| 
  mA0 rfl <| 
  mA0 rfl <| 
  mA0 rfl <| 
  mA0 rfl <| 
  mA0 rfl <| 
  mA1 rfl (⟨⟨Nat.le_of_ble_eq_true rfl, Nat.le_of_ble_eq_true rfl, Nat.le_of_ble_eq_true rfl, cal_332⟩, gw_809, Or.inl gw_808⟩) <| 
  mA1 rfl (gw_1225) <| 
  mA0 rfl <| 
  mA0 rfl <| 
  mA1 rfl (gw_1225) <| 
  mA0 rfl <| 
  mA0 rfl <| 
  mA0 rfl <| 
  mA0 rfl <| 
  mA0 rfl <| 
  mA0 rfl <| 
  mA0 rfl <| 
  mA0 rfl <| 
  mA0 rfl <| 
  mA0 rfl <| 
  mA0 rfl <| 
  mA0 rfl <| 
  mA0 rfl <| 
  mA0 rfl <| 
  mA1 rfl (⟨⟨Nat.le_of_ble_eq_true rfl, Nat.le_of_ble_eq_true rfl, Nat.le_of_ble_eq_true rfl, cal_332⟩, gw_809, Or.inl gw_808⟩) <| 
  mA0 rfl <| 
  mA0 rfl <| 
  mA0 rfl <| 
  mA0 rfl <| 
  mA0 rfl <| 
  mA0 rfl <| 
  mA0 rfl <| 
  mA0 rfl <| 
  mA0 rfl <| 
  mA0 rfl <| 
  mA0 rfl <| 
  mA0 rfl <| 
  mA0 rfl <| 
  mA1 rfl (Or.inr ⟨by decide, rfl⟩) <| trivial

theorem mc_336_0 : mAllP 336 mt_336_0 :=
  mA0 rfl <| 
  mA0 rfl <| 
  mA0 rfl <| 
  mA0 rfl <| 
  mA0 rfl <| 
  mA0 rfl <| 
  mA0 rfl <| 
  mA0 rfl <| 
  mA0 rfl <| 
  mA0 rfl <| 
  mA0 rfl <| 
  mA0 rfl <| 
  mA0 rfl <| 
  mA0 rfl <| 
  mA0 rfl <| 
  mA1 rfl (⟨⟨Nat.le_of_ble_eq_true rfl, Nat.le_of_ble_eq_true rfl, Nat.le_of_ble_eq_true rfl, cal_332⟩, gw_809, Or.inl gw_808⟩) <| 
  mA0 rfl <| 
  mA0 rfl <| 
  mA0 rfl <| 
  mA0 rfl <| 
  mA0 rfl <| 
  mA0 rfl <| 
  mA0 rfl <| 
  mA0 rfl <| 
  mA1 rfl (⟨⟨Nat.le_of_ble_eq_true rfl, Nat.le_of_ble_eq_true rfl, Nat.le_of_ble_eq_true rfl, cal_163⟩, rfl, gw_1086, gw_1087, gw_1088, _, rfl, rfl⟩) <| 
  mA0 rfl <| 
  mA0 rfl <| 
  mA0 rfl <| 
  mA0 rfl <| 
  mA0 rfl <| 
  mA0 rfl <| 
  mA0 rfl <| 
  mA0 rfl <| 
  mA0 rfl <| 
  mA0 rfl <| 
  mA0 rfl <| 
  mA0 rfl <| 
  mA0 rfl <| 
  mA0 rfl <| 
  mA0 rfl <| 
  mA0 rfl <| 
  mA0 rfl <| 
  mA0 rfl <| 
  mA0 rfl <| 
  mA0 rfl <| 
  mA0 rfl <| 
  mA0 rfl <| 
  mA0 rfl <| 
  mA0 rfl <| 
  mA0 rfl <| 
  mA0 rfl <| 
  mA0 rfl <| 
  mA0 rfl <| 
  mA0 rfl <| 
  mA0 rfl <| 
  mA0 rfl <| 
  mA0 rfl <| 
  mA0 rfl <| 
  mA0 rfl <| 
  mA0 rfl <| 
  mA0 rfl <| 
  mA0 rfl <| 
  mA0 rfl <| 
  mA0 rfl <| 
  mA1 rfl (⟨⟨Nat.le_of_ble_eq_true rfl, Nat.le_of_ble_eq_true rfl, Nat.le_of_ble_eq_true rfl, cal_158⟩, rfl, gw_1229, gw_1230, gw_1231, _, rfl, rfl⟩) <| 
  mA0 rfl <| 
  mA0 rfl <| 
  mA0 rfl <| 
  mA1 rfl (⟨⟨Nat.le_of_ble_eq_true rfl, Nat.le_of_ble_eq_true rfl, Nat.le_of_ble_eq_true rfl, cal_158⟩, rfl, gw_1229, gw_1230, gw_1231, _, rfl, rfl⟩) <| 
  mA0 rfl <| 
  mA0 rfl <| 
  mA0 rfl <| 
  mA0 rfl <| 
  mA0 rfl <| 
  mA0 rfl <| 
  mA0 rfl <| 
  mA0 rfl <| 
  mA0 rfl <| 
  mA0 rfl <| 
  mA0 rfl <| 
  mA0 rfl <| 
  mA0 rfl <| 
  mA0 rfl <| 
  mA0 rfl <| 
  mA0 rfl <| 
  mA0 rfl <| 
  mA0 rfl <| 
  mA0 rfl <| 
  mA1 rfl (⟨⟨Nat.le_of_ble_eq_true rfl, Nat.le_of_ble_eq_true rfl, Nat.le_of_ble_eq_true rfl, cal_332⟩, gw_809, Or.inl gw_808⟩) <| 
  mA0 rfl <| 
  mA0 rfl <| 
  mA0 rfl <| 
  mA0 rfl <| 
  mA0 rfl <| 
  mA0 rfl <| 
  mA0 rfl <| 
  mA0 rfl <| 
  mA0 rfl <| 
  mA0 rfl <| 
  mA0 rfl <| 
  mA0 rfl <| 
  mA0 rfl <| 
  mA0 rfl <| 
  mA0 rfl <| 
  mA0 rfl <| 
  mA0 rfl <| 
  mA0 rfl <| 
  mA0 rfl <| 
  mA0 rfl <| 
  mA0 rfl <| 
  mA0 rfl <| 
  mA0 rfl <| 
  mA0 rfl <| 
  mA0 rfl <| 
  mA0 rfl <| 
  mA0 rfl <| 
  mA0 rfl <| 
  mA1 rfl (⟨⟨Nat.le_of_ble_eq_true rfl, Nat.le_of_ble_eq_true rfl, Nat.le_of_ble_eq_true rfl, cal_162⟩, rfl, gw_799, gw_800, gw_801, _, rfl, rfl⟩) <| 
  mA0 rfl <| 
  mA0 rfl <| trivial

theorem mc_336_1 : mAllP 336 mt_336_1 :=
  mA0 rfl <| 
  mA0 rfl <| 
  mA0 rfl <| 
  mA1 rfl (Or.inr ⟨by decide, rfl⟩) <| trivial

theorem mc_337 : mAllP 337 mt_337 :=
  mA0 rfl <| 
  mA0 rfl <| 
  mA0 rfl <| 
  mA0 rfl <| 
  mA0 rfl <| 
  mA0 rfl <| 
  mA0 rfl <| 
  mA0 rfl <| 
  mA0 rfl <| 
  mA0 rfl <| 
  mA0 rfl <| 
  mA1 rfl (⟨⟨Nat.le_of_ble_eq_true rfl, Nat.le_of_ble_eq_true rfl, Nat.le_of_ble_eq_true rfl, cal_159⟩, rfl, gw_1236, gw_1237, gw_1238, _, rfl, rfl⟩) <| 
  mA0 rfl <| 
  mA0 rfl <| 
  mA0 rfl <| 
  mA0 rfl <| 
  mA0 rfl <| 
  mA0 rfl <| 
  mA1 rfl (gw_1225) <| 
  mA0 rfl <| 
  mA0 rfl <| 
  mA0 rfl <| 
  mA0 rfl <| 
  mA0 rfl <| 
  mA0 rfl <| 
  mA0 rfl <| 
  mA0 rfl <| 
  mA0 rfl <| 
  mA0 rfl <| 
  mA0 rfl <| 
  mA0 rfl <| 
  mA0 rfl <| 
  mA0 rfl <| 
  mA0 rfl <| 
  mA0 rfl <| 
  mA0 rfl <| 
  mA0 rfl <| 
  mA0 rfl <| 
  mA0 rfl <| 
  mA0 rfl <| 
  mA0 rfl <| 
  mA0 rfl <| 
  mA0 rfl <| 
  mA0 rfl <| 
  mA0 rfl <| 
  mA0 rfl <| 
  mA0 rfl <| 
  mA0 rfl <| 
  mA0 rfl <| 
  mA0 rfl <| 
  mA0 rfl <| 
  mA0 rfl <| 
  mA0 rfl <| 
  mA0 rfl <| 
  mA0 rfl <| 
  mA0 rfl <| 
  mA0 rfl <| 
  mA0 rfl <| 
  mA0 rfl <| 
  mA0 rfl <| 
  mA0 rfl <| 
  mA0 rfl <| 
  mA0 rfl <| 
  mA0 rfl <| 
  mA0 rfl <| 
  mA0 rfl <| 
  mA0 rfl <| 
  mA0 rfl <| 
  mA0 rfl <| 
  mA0 rfl <| 
  mA0 rfl <| 
  mA0 rfl <| 
  mA0 rfl <| 
  mA1 rfl (⟨⟨Nat.le_of_ble_eq_true rfl, Nat.le_of_ble_eq_true rfl, Nat.le_of_ble_eq_true rfl, cal_159⟩, rfl, gw_1236, gw_1237, gw_1238, _, rfl, rfl⟩) <| 
  mA0 rfl <| 
  mA0 rfl <| 
  mA0 rfl <| 
  mA0 rfl <| 
  mA0 rfl <| 
  mA0 rfl <| 
  mA0 rfl <| 
  mA0 rfl <| 
  mA0 rfl <| 
  mA0 rfl <| 
  mA0 rfl <| 
  mA0 rfl <| 
  mA0 rfl <| 
  mA0 rfl <| 
  mA0 rfl <| 
  mA0 rfl <| 
  mA0 rfl <| 
  mA0 rfl <| 
  mA0 rfl <| 
  mA0 rfl <| 
  mA0 rfl <| 
  mA1 rfl (Or.inr ⟨by decide, rfl⟩) <| trivial

theorem mc_338 : mAllP 338 mt_338 :=
  trivial

theorem mc_339 : mAllP 339 mt_339 :=
  trivial

theorem mc_340 : mAllP 340 mt_340 :=
  trivial

theorem mc_341 : mAllP 341 mt_341 :=
  trivial

theorem mc_342 : mAllP 342 mt_342 :=
  trivial

theorem mc_343 : mAllP 343 mt_343 :=
  trivial

theorem mc_344 : mAllP 344 mt_344 :=
  trivial

theorem mc_345 : mAllP 345 mt_345 :=
  trivial

theorem mc_346 : mAllP 346 mt_346 :=
  trivial

theorem mc_347 : mAllP 347 mt_347 :=
  trivial

theorem mc_348 : mAllP 348 mt_348 :=
  trivial

theorem mc_349 : mAllP 349 mt_349 :=
  trivial

theorem mc_350 : mAllP 350 mt_350 :=
  trivial

theorem mc_351 : mAllP 351 mt_351 :=
  trivial

theorem mc_352 : mAllP 352 mt_352 :=
  trivial

theorem mc_353 : mAllP 353 mt_353 :=
  trivial

theorem mc_354 : mAllP 354 mt_354 :=
  trivial

theorem mc_355 : mAllP 355 mt_355 :=
  trivial

theorem mc_356 : mAllP 356 mt_356 :=
  trivial

theorem mc_357 : mAllP 357 mt_357 :=
  trivial

theorem mc_358 : mAllP 358 mt_358 :=
  trivial

theorem mc_359 : mAllP 359 mt_359 :=
  trivial

theorem mc_360 : mAllP 360 mt_360 :=
  trivial

theorem mc_361 : mAllP 361 mt_361 :=
  trivial

theorem mc_362 : mAllP 362 mt_362 :=
  trivial

theorem mc_363 : mAllP 363 mt_363 :=
  trivial

theorem mc_364_0 : mAllP 364 mt_364_0 :=
  mA1 rfl (⟨_, rfl, gw_20, gw_21, gw_1⟩) <| 
  mA0 rfl <| 
  mA1 rfl (⟨⟨Nat.le_of_ble_eq_true rfl, Nat.le_of_ble_eq_true rfl, Nat.le_of_ble_eq_true rfl, cal_127⟩, rfl, rfl, (fun E => ⟨(100000, 0), rfl, mNone _⟩), gw_23, rfl, Or.inl gw_22⟩) <| 
  mA0 rfl <| 
  mA0 rfl <| 
  mA1 rfl (gw_44) <| 
  mA0 rfl <| 
  mA0 rfl <| 
  mA1 rfl (gw_44) <| 
  mA0 rfl <| 
  mA0 rfl <| 
  mA1 rfl (gw_44) <| 
  mA0 rfl <| 
  mA0 rfl <| 
  mA0 rfl <| 
  mA0 rfl <| 
  mA0 rfl <| 
  mA0 rfl <| 
  mA0 rfl <| 
  mA0 rfl <| 
  mA1 rfl (⟨⟨Nat.le_of_ble_eq_true rfl, Nat.le_of_ble_eq_true rfl, Nat.le_of_ble_eq_true rfl, cal_147⟩, rfl, gw_741, gw_742, gw_743, _, rfl, rfl⟩) <| 
  mA0 rfl <| 
  mA0 rfl <| 
  mA0 rfl <| 
  mA1 rfl (⟨⟨Nat.le_of_ble_eq_true rfl, Nat.le_of_ble_eq_true rfl, Nat.le_of_ble_eq_true rfl, cal_335⟩, gw_1223, Or.inl gw_1222⟩) <| 
  mA0 rfl <| 
  mA0 rfl <| 
  mA0 rfl <| 
  mA0 rfl <| 
  mA0 rfl <| 
  mA0 rfl <| 
  mA0 rfl <| 
  mA0 rfl <| 
  mA0 rfl <| 
  mA0 rfl <| 
  mA0 rfl <| 
  mA0 rfl <| 
  mA0 rfl <| 
  mA0 rfl <| 
  mA0 rfl <| 
  mA0 rfl <| 
  mA0 rfl <| 
  mA0 rfl <| 
  mA0 rfl <| 
  mA0 rfl <| 
  mA0 rfl <| 
  mA0 rfl <| 
  mA0 rfl <| 
  mA0 rfl <| 
  mA0 rfl <| 
  mA0 rfl <| 
  mA0 rfl <| 
  mA0 rfl <| 
  mA0 rfl <| 
  mA0 rfl <| 
  mA0 rfl <| 
  mA0 rfl <| 
  mA0 rfl <| 
  mA0 rfl <| 
  mA0 rfl <| 
  mA0 rfl <| 
  mA0 rfl <| 
  mA1 rfl (gw_1246) <| 
  mA0 rfl <| 
  mA0 rfl <| 
  mA0 rfl <| 
  mA0 rfl <| 
  mA1 rfl (gw_1247) <| 
  mA0 rfl <| 
  mA0 rfl <| 
  mA0 rfl <| 
  mA0 rfl <| 
  mA0 rfl <| 
  mA0 rfl <| 
  mA0 rfl <| 
  mA0 rfl <| 
  mA0 rfl <| 
  mA1 rfl (gw_1248) <| 
  mA0 rfl <| 
  mA0 rfl <| 
  mA0 rfl <| 
  mA0 rfl <| 
  mA0 rfl <| 
  mA0 rfl <| 
  mA0 rfl <| 
  mA0 rfl <| 
  mA0 rfl <| 
  mA0 rfl <| 
  mA0 rfl <| 
  mA0 rfl <| 
  mA0 rfl <| 
  mA0 rfl <| 
  mA0 rfl <| 
  mA0 rfl <| 
  mA0 rfl <| 
  mA0 rfl <| 
  mA0 rfl <| 
  mA0 rfl <| 
  mA0 rfl <| 
  mA0 rfl <| 
  mA0 rfl <| 
  mA0 rfl <| 
  mA0 rfl <| 
  mA0 rfl <| 
  mA0 rfl <| 
  mA0 rfl <| 
  mA0 rfl <| 
  mA0 rfl <| 
  mA0 rfl <| 
  mA0 rfl <| 
  mA0 rfl <| 
  mA0 rfl <| 
  mA0 rfl <| 
  mA0 rfl <| 
  mA0 rfl <| 
  mA0 rfl <| 
  mA0 rfl <| 
  mA0 rfl <| 
  mA0 rfl <| 
  mA0 rfl <| trivial

theorem mc_364_1 : mAllP 364 mt_364_1 :=
  mA0 rfl <| 
  mA0 rfl <| 
  mA0 rfl <| 
  mA0 rfl <| 
  mA0 rfl <| 
  mA0 rfl <| 
  mA0 rfl <| 
  mA0 rfl <| 
  mA0 rfl <| 
  mA0 rfl <| 
  mA0 rfl <| 
  mA0 rfl <| 
  mA0 rfl <| 
  mA0 rfl <| 
  mA0 rfl <| 
  mA0 rfl <| 
  mA0 rfl <| 
  mA0 rfl <| 
  mA0 rfl <| 
  mA0 rfl <| 
  mA0 rfl <| 
  mA0 rfl <| 
  mA0 rfl <| 
  mA0 rfl <| 
  mA0 rfl <| 
  mA0 rfl <| 
  mA0 rfl <| 
  mA0 rfl <| 
  mA0 rfl <| 
  mA0 rfl <| 
  mA1 rfl (⟨⟨Nat.le_of_ble_eq_true rfl, Nat.le_of_ble_eq_true rfl, Nat.le_of_ble_eq_true rfl, cal_332⟩, gw_809, Or.inl gw_808⟩) <| 
  mA0 rfl <| 
  mA0 rfl <| 
  mA0 rfl <| 
  mA0 rfl <| 
  mA0 rfl <| 
  mA0 rfl <| 
  mA0 rfl <| 
  mA0 rfl <| 
  mA0 rfl <| 
  mA0 rfl <| 
  mA0 rfl <| 
  mA0 rfl <| 
  mA0 rfl <| 
  mA0 rfl <| 
  mA0 rfl <| 
  mA0 rfl <| 
  mA0 rfl <| 
  mA0 rfl <| 
  mA0 rfl <| 
  mA0 rfl <| 
  mA0 rfl <| 
  mA0 rfl <| 
  mA0 rfl <| 
  mA0 rfl <| 
  mA0 rfl <| 
  mA0 rfl <| 
  mA0 rfl <| 
  mA0 rfl <| 
  mA0 rfl <| 
  mA0 rfl <| 
  mA0 rfl <| 
  mA0 rfl <| 
  mA0 rfl <| 
  mA0 rfl <| 
  mA0 rfl <| 
  mA0 rfl <| 
  mA0 rfl <| 
  mA0 rfl <| 
  mA0 rfl <| 
  mA0 rfl <| 
  mA0 rfl <| 
  mA0 rfl <| 
  mA0 rfl <| 
  mA1 rfl (gw_1249) <| 
  mA0 rfl <| 
  mA0 rfl <| 
  mA0 rfl <| 
  mA0 rfl <| 
  mA0 rfl <| 
  mA0 rfl <| 
  mA0 rfl <| 
  mA0 rfl <| 
  mA0 rfl <| 
  mA0 rfl <| 
  mA0 rfl <| 
  mA0 rfl <| 
  mA0 rfl <| 
  mA0 rfl <| 
  mA0 rfl <| 
  mA0 rfl <| 
  mA0 rfl <| 
  mA0 rfl <| 
  mA0 rfl <| 
  mA0 rfl <| 
  mA0 rfl <| 
  mA0 rfl <| 
  mA0 rfl <| 
  mA0 rfl <| 
  mA0 rfl <| 
  mA0 rfl <| 
  mA0 rfl <| 
  mA0 rfl <| 
  mA0 rfl <| 
  mA0 rfl <| 
  mA0 rfl <| 
  mA0 rfl <| 
  mA0 rfl <| 
  mA0 rfl <| 
  mA0 rfl <| 
  mA0 rfl <| 
  mA0 rfl <| 
  mA0 rfl <| 
  mA0 rfl <| 
  mA0 rfl <| 
  mA0 rfl <| 
  mA0 rfl <| 
  mA1 rfl (⟨⟨Nat.le_of_ble_eq_true rfl, Nat.le_of_ble_eq_true rfl, Nat.le_of_ble_eq_true rfl, cal_332⟩, gw_809, Or.inl gw_808⟩) <| 
  mA0 rfl <| 
  mA0 rfl <| trivial

theorem mc_364_2 : mAllP 364 mt_364_2 :=
  mA0 rfl <| 
  mA0 rfl <| 
  mA0 rfl <| 
  mA0 rfl <| 
  mA0 rfl <| 
  mA0 rfl <| 
  mA0 rfl <| 
  mA0 rfl <| 
  mA0 rfl <| 
  mA0 rfl <| 
  mA0 rfl <| 
  mA0 rfl <| 
  mA0 rfl <| 
  mA0 rfl <| 
  mA0 rfl <| 
  mA0 rfl <| 
  mA0 rfl <| 
  mA0 rfl <| 
  mA0 rfl <| 
  mA0 rfl <| 
  mA0 rfl <| 
  mA0 rfl <| 
  mA0 rfl <| 
  mA0 rfl <| 
  mA1 rfl (⟨⟨Nat.le_of_ble_eq_true rfl, Nat.le_of_ble_eq_true rfl, Nat.le_of_ble_eq_true rfl, cal_332⟩, gw_809, Or.inl gw_808⟩) <| 
  mA0 rfl <| 
  mA0 rfl <| 
  mA0 rfl <| 
  mA0 rfl <| 
  mA0 rfl <| 
  mA0 rfl <| 
  mA0 rfl <| 
  mA0 rfl <| 
  mA0 rfl <| 
  mA0 rfl <| 
  mA0 rfl <| 
  mA0 rfl <| 
  mA0 rfl <| 
  mA0 rfl <| 
  mA0 rfl <| 
  mA0 rfl <| 
  mA0 rfl <| 
  mA0 rfl <| 
  mA0 rfl <| 
  mA0 rfl <| 
  mA0 rfl <| 
  mA0 rfl <| 
  mA0 rfl <| 
  mA0 rfl <| 
  mA0 rfl <| 
  mA0 rfl <| 
  mA0 rfl <| 
  mA0 rfl <| 
  mA0 rfl <| 
  mA0 rfl <| 
  mA0 rfl <| 
  mA0 rfl <| 
  mA0 rfl <| 
  mA0 rfl <| 
  mA1 rfl (⟨⟨Nat.le_of_ble_eq_true rfl, Nat.le_of_ble_eq_true rfl, Nat.le_of_ble_eq_true rfl, cal_149⟩, rfl, gw_745, gw_746, gw_747, _, rfl, rfl⟩) <| 
  mA0 rfl <| 
  mA0 rfl <| 
  mA0 rfl <| 
  mA0 rfl <| 
  mA0 rfl <| 
  mA0 rfl <| 
  mA0 rfl <| 
  mA0 rfl <| 
  mA0 rfl <| 
  mA0 rfl <| 
  mA1 rfl (⟨⟨Nat.le_of_ble_eq_true rfl, Nat.le_of_ble_eq_true rfl, Nat.le_of_ble_eq_true rfl, cal_332⟩, gw_809, Or.inl gw_808⟩) <| 
  mA0 rfl <| 
  mA0 rfl <| 
  mA0 rfl <| 
  mA0 rfl <| 
  mA0 rfl <| 
  mA0 rfl <| 
  mA0 rfl <| 
  mA0 rfl <| 
  mA0 rfl <| 
  mA0 rfl <| 
  mA0 rfl <| 
  mA0 rfl <| 
  mA0 rfl <| 
  mA1 rfl (⟨⟨Nat.le_of_ble_eq_true rfl, Nat.le_of_ble_eq_true rfl, Nat.le_of_ble_eq_true rfl, cal_332⟩, gw_809, Or.inl gw_808⟩) <| 
  mA0 rfl <| 
  mA0 rfl <| 
  mA0 rfl <| 
  mA0 rfl <| 
  mA0 rfl <| 
  mA0 rfl <| 
  mA0 rfl <| 
  mA0 rfl <| 
  mA1 rfl (⟨⟨Nat.le_of_ble_eq_true rfl, Nat.le_of_ble_eq_true rfl, Nat.le_of_ble_eq_true rfl, cal_332⟩, gw_809, Or.inl gw_808⟩) <| 
  mA0 rfl <| 
  mA0 rfl <| 
  mA0 rfl <| 
  mA0 rfl <| 
  mA0 rfl <| 
  mA0 rfl <| 
  mA0 rfl <| 
  mA0 rfl <| 
  mA0 rfl <| 
  mA0 rfl <| 
  mA0 rfl <| 
  mA0 rfl <| 
  mA0 rfl <| 
  mA0 rfl <| 
  mA0 rfl <| 
  mA1 rfl (⟨⟨Nat.le_of_ble_eq_true rfl, Nat.le_of_ble_eq_true rfl, Nat.le_of_ble_eq_true rfl, cal_332⟩, gw_809, Or.inl gw_808⟩) <| 
  mA0 rfl <| 
  mA0 rfl <| 
  mA0 rfl <| 
  mA0 rfl <| 
  mA0 rfl <| 
  mA0 rfl <| 
  mA0 rfl <| 
  mA0 rfl <| 
  mA0 rfl <| 
  mA0 rfl <| trivial

theorem mc_364_3 : mAllP 364 mt_364_3 :=
  mA0 rfl <| 
  mA0 rfl <| 
  mA0 rfl <| 
  mA0 rfl <| 
  mA0 rfl <| 
  mA0 rfl <| 
  mA0 rfl <| 
  mA0 rfl <| 
  mA0 rfl <| 
  mA0 rfl <| 
  mA0 rfl <| 
  mA0 rfl <| 
  mA0 rfl <| 
  mA0 rfl <| 
  mA0 rfl <| 
  mA0 rfl <| 
  mA0 rfl <| 
  mA0 rfl <| 
  mA0 rfl <| 
  mA0 rfl <| 
  mA1 rfl (⟨⟨Nat.le_of_ble_eq_true rfl, Nat.le_of_ble_eq_true rfl, Nat.le_of_ble_eq_true rfl, cal_332⟩, gw_809, Or.inl gw_808⟩) <| 
  mA0 rfl <| 
  mA0 rfl <| 
  mA0 rfl <| 
  mA0 rfl <| 
  mA0 rfl <| 
  mA0 rfl <| 
  mA0 rfl <| 
  mA0 rfl <| 
  mA1 rfl (⟨⟨Nat.le_of_ble_eq_true rfl, Nat.le_of_ble_eq_true rfl, Nat.le_of_ble_eq_true rfl, cal_332⟩, gw_809, Or.inl gw_808⟩) <| 
  mA0 rfl <| 
  mA0 rfl <| 
  mA0 rfl <| 
  mA0 rfl <| 
  mA0 rfl <| 
  mA0 rfl <| 
  mA0 rfl <| 
  mA1 rfl (⟨⟨Nat.le_of_ble_eq_true rfl, Nat.le_of_ble_eq_true rfl, Nat.le_of_ble_eq_true rfl, cal_131⟩, rfl, gw_361, gw_362, gw_363, _, rfl, rfl⟩) <| 
  mA0 rfl <| 
  mA0 rfl <| 
  mA0 rfl <| 
  mA0 rfl <| 
  mA1 rfl (⟨⟨Nat.le_of_ble_eq_true rfl, Nat.le_of_ble_eq_true rfl, Nat.le_of_ble_eq_true rfl, cal_149⟩, rfl, gw_745, gw_746, gw_747, _, rfl, rfl⟩) <| 
  mA0 rfl <| 
  mA0 rfl <| 
  mA0 rfl <| 
  mA0 rfl <| 
  mA0 rfl <| 
  mA0 rfl <| 
  mA0 rfl <| 
  mA0 rfl <| 
  mA0 rfl <| 
  mA1 rfl (⟨⟨Nat.le_of_ble_eq_true rfl, Nat.le_of_ble_eq_true rfl, Nat.le_of_ble_eq_true rfl, cal_131⟩, rfl, gw_361, gw_362, gw_363, _, rfl, rfl⟩) <| 
  mA0 rfl <| 
  mA0 rfl <| 
  mA0 rfl <| 
  mA1 rfl (⟨⟨Nat.le_of_ble_eq_true rfl, Nat.le_of_ble_eq_true rfl, Nat.le_of_ble_eq_true rfl, cal_335⟩, gw_1223, Or.inl gw_1222⟩) <| 
  mA0 rfl <| 
  mA0 rfl <| 
  mA0 rfl <| 
  mA0 rfl <| 
  mA0 rfl <| 
  mA0 rfl <| 
  mA0 rfl <| 
  mA0 rfl <| 
  mA0 rfl <| 
  mA0 rfl <| 
  mA0 rfl <| 
  mA0 rfl <| 
  mA0 rfl <| 
  mA0 rfl <| 
  mA0 rfl <| 
  mA0 rfl <| 
  mA0 rfl <| 
  mA0 rfl <| 
  mA0 rfl <| 
  mA0 rfl <| 
  mA0 rfl <| 
  mA0 rfl <| 
  mA0 rfl <| 
  mA0 rfl <| 
  mA0 rfl <| 
  mA0 rfl <| 
  mA0 rfl <| 
  mA0 rfl <| 
  mA0 rfl <| 
  mA0 rfl <| 
  mA1 rfl (⟨⟨Nat.le_of_ble_eq_true rfl, Nat.le_of_ble_eq_true rfl, Nat.le_of_ble_eq_true rfl, cal_135⟩, rfl, gw_367, gw_368, gw_369, _, rfl, rfl⟩) <| 
  mA0 rfl <| 
  mA0 rfl <| 
  mA0 rfl <| 
  mA0 rfl <| 
  mA0 rfl <| 
  mA1 rfl (⟨⟨Nat.le_of_ble_eq_true rfl, Nat.le_of_ble_eq_true rfl, Nat.le_of_ble_eq_true rfl, cal_135⟩, rfl, gw_367, gw_368, gw_369, _, rfl, rfl⟩) <| 
  mA0 rfl <| 
  mA0 rfl <| 
  mA0 rfl <| 
  mA0 rfl <| 
  mA1 rfl (⟨⟨Nat.le_of_ble_eq_true rfl, Nat.le_of_ble_eq_true rfl, Nat.le_of_ble_eq_true rfl, cal_162⟩, rfl, gw_799, gw_800, gw_801, _, rfl, rfl⟩) <| 
  mA0 rfl <| 
  mA0 rfl <| 
  mA0 rfl <| 
  mA0 rfl <| 
  mA0 rfl <| 
  mA0 rfl <| 
  mA0 rfl <| 
  mA0 rfl <| 
  mA0 rfl <| 
  mA0 rfl <| 
  mA0 rfl <| 
  mA0 rfl <| 
  mA0 rfl <| 
  mA0 rfl <| 
  mA0 rfl <| 
  mA0 rfl <| 
  mA0 rfl <| 
  mA0 rfl <| 
  mA0 rfl <| 
  mA0 rfl <| 
  mA0 rfl <| trivial

theorem mc_364_4 : mAllP 364 mt_364_4 :=
  mA0 rfl <| 
  mA0 rfl <| 
  mA0 rfl <| 
  mA0 rfl <| 
  mA0 rfl <| 
  mA0 rfl <| 
  mA0 rfl <| 
  mA0 rfl <| 
  mA0 rfl <| 
  mA0 rfl <| 
  mA0 rfl <| 
  mA0 rfl <| 
  mA0 rfl <| 
  mA0 rfl <| 
  mA0 rfl <| 
  mA0 rfl <| 
  mA0 rfl <| 
  mA0 rfl <| 
  mA0 rfl <| 
  mA0 rfl <| 
  mA0 rfl <| 
  mA0 rfl <| 
  mA0 rfl <| 
  mA0 rfl <| 
  mA0 rfl <| 
  mA0 rfl <| 
  mA1 rfl (⟨⟨Nat.le_of_ble_eq_true rfl, Nat.le_of_ble_eq_true rfl, Nat.le_of_ble_eq_true rfl, cal_332⟩, gw_809, Or.inl gw_808⟩) <| 
  mA0 rfl <| 
  mA0 rfl <| 
  mA0 rfl <| 
  mA0 rfl <| 
  mA0 rfl <| 
  mA0 rfl <| 
  mA0 rfl <| 
  mA0 rfl <| 
  mA0 rfl <| 
  mA0 rfl <| 
  mA0 rfl <| 
  mA0 rfl <| 
  mA0 rfl <| 
  mA0 rfl <| 
  mA0 rfl <| 
  mA0 rfl <| 
  mA0 rfl <| 
  mA0 rfl <| 
  mA0 rfl <| 
  mA0 rfl <| 
  mA0 rfl <| 
  mA0 rfl <| 
  mA0 rfl <| 
  mA0 rfl <| 
  mA0 rfl <| 
  mA0 rfl <| 
  mA0 rfl <| 
  mA0 rfl <| 
  mA0 rfl <| 
  mA0 rfl <| 
  mA0 rfl <| 
  mA0 rfl <| 
  mA0 rfl <| 
  mA0 rfl <| 
  mA0 rfl <| 
  mA0 rfl <| 
  mA0 rfl <| 
  mA0 rfl <| 
  mA0 rfl <| 
  mA0 rfl <| 
  mA0 rfl <| 
  mA0 rfl <| 
  mA0 rfl <| 
  mA0 rfl <| 
  mA0 rfl <| 
  mA0 rfl <| 
  mA0 rfl <| 
  mA0 rfl <| 
  mA0 rfl <| 
  mA0 rfl <| 
  mA0 rfl <| 
  mA0 rfl <| 
  mA0 rfl <| 
  mA0 rfl <| 
  mA0 rfl <| 
  mA0 rfl <| 
  mA0 rfl <| 
  mA0 rfl <| 
  mA0 rfl <| 
  mA0 rfl <| 
  mA0 rfl <| 
  mA0 rfl <| 
  mA0 rfl <| 
  mA0 rfl <| 
  mA0 rfl <| 
  mA1 rfl (⟨⟨Nat.le_of_ble_eq_true rfl, Nat.le_of_ble_eq_true rfl, Nat.le_of_ble_eq_true rfl, cal_332⟩, gw_809, Or.inl gw_808⟩) <| 
  mA0 rfl <| 
  mA0 rfl <| 
  mA0 rfl <| 
  mA0 rfl <| 
  mA0 rfl <| 
  mA0 rfl <| 
  mA0 rfl <| 
  mA0 rfl <| 
  mA0 rfl <| 
  mA0 rfl <| 
  mA0 rfl <| 
  mA0 rfl <| 
  mA0 rfl <| 
  mA0 rfl <| 
  mA0 rfl <| 
  mA0 rfl <| 
  mA0 rfl <| 
  mA0 rfl <| 
  mA0 rfl <| 
  mA0 rfl <| 
  mA0 rfl <| 
  mA0 rfl <| 
  mA0 rfl <| 
  mA0 rfl <| 
  mA0 rfl <| 
  mA0 rfl <| 
  mA0 rfl <| trivial

theorem mc_364_5 : mAllP 364 mt_364_5 :=
  mA0 rfl <| 
  mA0 rfl <| 
  mA0 rfl <| 
  mA0 rfl <| 
  mA0 rfl <| 
  mA1 rfl (⟨⟨Nat.le_of_ble_eq_true rfl, Nat.le_of_ble_eq_true rfl, Nat.le_of_ble_eq_true rfl, cal_136⟩, rfl, gw_678, gw_679, gw_680, _, rfl, rfl⟩) <| 
  mA0 rfl <| 
  mA0 rfl <| 
  mA0 rfl <| 
  mA0 rfl <| 
  mA0 rfl <| 
  mA0 rfl <| 
  mA0 rfl <| 
  mA0 rfl <| 
  mA0 rfl <| 
  mA0 rfl <| 
  mA0 rfl <| 
  mA0 rfl <| 
  mA0 rfl <| 
  mA0 rfl <| 
  mA0 rfl <| 
  mA0 rfl <| 
  mA0 rfl <| 
  mA0 rfl <| 
  mA0 rfl <| 
  mA0 rfl <| 
  mA0 rfl <| 
  mA0 rfl <| 
  mA0 rfl <| 
  mA0 rfl <| 
  mA0 rfl <| 
  mA0 rfl <| 
  mA0 rfl <| 
  mA0 rfl <| 
  mA0 rfl <| 
  mA0 rfl <| 
  mA0 rfl <| 
  mA0 rfl <| 
  mA0 rfl <| 
  mA0 rfl <| 
  mA0 rfl <| 
  mA0 rfl <| 
  mA0 rfl <| 
  mA0 rfl <| 
  mA0 rfl <| 
  mA0 rfl <| 
  mA0 rfl <| 
  mA1 rfl (⟨⟨Nat.le_of_ble_eq_true rfl, Nat.le_of_ble_eq_true rfl, Nat.le_of_ble_eq_true rfl, cal_332⟩, gw_809, Or.inl gw_808⟩) <| 
  mA0 rfl <| 
  mA0 rfl <| 
  mA0 rfl <| 
  mA0 rfl <| 
  mA0 rfl <| 
  mA0 rfl <| 
  mA0 rfl <| 
  mA0 rfl <| 
  mA0 rfl <| 
  mA0 rfl <| 
  mA0 rfl <| 
  mA0 rfl <| 
  mA0 rfl <| 
  mA0 rfl <| 
  mA0 rfl <| 
  mA0 rfl <| 
  mA0 rfl <| 
  mA0 rfl <| 
  mA0 rfl <| 
  mA0 rfl <| 
  mA0 rfl <| 
  mA0 rfl <| 
  mA1 rfl (⟨⟨Nat.le_of_ble_eq_true rfl, Nat.le_of_ble_eq_true rfl, Nat.le_of_ble_eq_true rfl, cal_160⟩, rfl, gw_758, gw_759, gw_760, _, rfl, rfl⟩) <| 
  mA0 rfl <| 
  mA0 rfl <| 
  mA0 rfl <| 
  mA0 rfl <| 
  mA0 rfl <| 
  mA0 rfl <| 
  mA0 rfl <| 
  mA0 rfl <| 
  mA0 rfl <| 
  mA0 rfl <| 
  mA0 rfl <| 
  mA0 rfl <| 
  mA0 rfl <| 
  mA0 rfl <| 
  mA0 rfl <| 
  mA0 rfl <| 
  mA0 rfl <| 
  mA0 rfl <| 
  mA0 rfl <| 
  mA0 rfl <| 
  mA0 rfl <| 
  mA0 rfl <| 
  mA0 rfl <| 
  mA0 rfl <| 
  mA0 rfl <| 
  mA0 rfl <| 
  mA0 rfl <| 
  mA0 rfl <| 
  mA0 rfl <| 
  mA0 rfl <| 
  mA0 rfl <| 
  mA1 rfl (⟨⟨Nat.le_of_ble_eq_true rfl, Nat.le_of_ble_eq_true rfl, Nat.le_of_ble_eq_true rfl, cal_161⟩, rfl, gw_787, gw_788, gw_789, _, rfl, rfl⟩) <| 
  mA0 rfl <| 
  mA0 rfl <| 
  mA0 rfl <| 
  mA0 rfl <| 
  mA0 rfl <| 
  mA0 rfl <| 
  mA0 rfl <| 
  mA0 rfl <| 
  mA0 rfl <| 
  mA0 rfl <| 
  mA1 rfl (⟨⟨Nat.le_of_ble_eq_true rfl, Nat.le_of_ble_eq_true rfl, Nat.le_of_ble_eq_true rfl, cal_332⟩, gw_809, Or.inl gw_808⟩) <| 
  mA0 rfl <| 
  mA0 rfl <| 
  mA0 rfl <| 
  mA0 rfl <| 
  mA0 rfl <| 
  mA0 rfl <| trivial

theorem mc_364_6 : mAllP 364 mt_364_6 :=
  mA0 rfl <| 
  mA0 rfl <| 
  mA0 rfl <| 
  mA0 rfl <| 
  mA0 rfl <| 
  mA0 rfl <| 
  mA0 rfl <| 
  mA0 rfl <| 
  mA0 rfl <| 
  mA0 rfl <| 
  mA0 rfl <| 
  mA0 rfl <| 
  mA0 rfl <| 
  mA0 rfl <| 
  mA0 rfl <| 
  mA1 rfl (⟨⟨Nat.le_of_ble_eq_true rfl, Nat.le_of_ble_eq_true rfl, Nat.le_of_ble_eq_true rfl, cal_161⟩, rfl, gw_787, gw_788, gw_789, _, rfl, rfl⟩) <| 
  mA0 rfl <| 
  mA0 rfl <| 
  mA0 rfl <| 
  mA0 rfl <| 
  mA0 rfl <| 
  mA0 rfl <| 
  mA0 rfl <| 
  mA0 rfl <| 
  mA0 rfl <| 
  mA1 rfl (⟨⟨Nat.le_of_ble_eq_true rfl, Nat.le_of_ble_eq_true rfl, Nat.le_of_ble_eq_true rfl, cal_161⟩, rfl, gw_787, gw_788, gw_789, _, rfl, rfl⟩) <| 
  mA0 rfl <| 
  mA0 rfl <| 
  mA0 rfl <| 
  mA0 rfl <| 
  mA0 rfl <| 
  mA0 rfl <| 
  mA0 rfl <| 
  mA1 rfl (⟨⟨Nat.le_of_ble_eq_true rfl, Nat.le_of_ble_eq_true rfl, Nat.le_of_ble_eq_true rfl, cal_161⟩, rfl, gw_787, gw_788, gw_789, _, rfl, rfl⟩) <| 
  mA0 rfl <| 
  mA0 rfl <| 
  mA0 rfl <| 
  mA0 rfl <| 
  mA0 rfl <| 
  mA0 rfl <| 
  mA0 rfl <| 
  mA0 rfl <| 
  mA0 rfl <| 
  mA0 rfl <| 
  mA0 rfl <| 
  mA0 rfl <| 
  mA0 rfl <| 
  mA0 rfl <| 
  mA0 rfl <| 
  mA0 rfl <| 
  mA0 rfl <| 
  mA0 rfl <| 
  mA0 rfl <| 
  mA0 rfl <| 
  mA1 rfl (⟨⟨Nat.le_of_ble_eq_true rfl, Nat.le_of_ble_eq_true rfl, Nat.le_of_ble_eq_true rfl, cal_141⟩, rfl, gw_683, gw_684, gw_685, _, rfl, rfl⟩) <| 
  mA0 rfl <| 
  mA0 rfl <| 
  mA0 rfl <| 
  mA0 rfl <| 
  mA0 rfl <| 
  mA0 rfl <| 
  mA0 rfl <| 
  mA0 rfl <| 
  mA0 rfl <| 
  mA0 rfl <| 
  mA0 rfl <| 
  mA0 rfl <| 
  mA0 rfl <| 
  mA0 rfl <| 
  mA0 rfl <| 
  mA0 rfl <| 
  mA0 rfl <| 
  mA0 rfl <| 
  mA0 rfl <| 
  mA0 rfl <| 
  mA0 rfl <| 
  mA0 rfl <| 
  mA0 rfl <| 
  mA0 rfl <| 
  mA0 rfl <| 
  mA0 rfl <| 
  mA0 rfl <| 
  mA0 rfl <| 
  mA1 rfl (⟨⟨Nat.le_of_ble_eq_true rfl, Nat.le_of_ble_eq_true rfl, Nat.le_of_ble_eq_true rfl, cal_146⟩, rfl, gw_718, gw_719, gw_720, _, rfl, rfl⟩) <| 
  mA0 rfl <| 
  mA0 rfl <| 
  mA0 rfl <| 
  mA0 rfl <| 
  mA0 rfl <| 
  mA0 rfl <| 
  mA0 rfl <| 
  mA0 rfl <| 
  mA0 rfl <| 
  mA0 rfl <| 
  mA0 rfl <| 
  mA1 rfl (⟨⟨Nat.le_of_ble_eq_true rfl, Nat.le_of_ble_eq_true rfl, Nat.le_of_ble_eq_true rfl, cal_146⟩, rfl, gw_718, gw_719, gw_720, _, rfl, rfl⟩) <| 
  mA0 rfl <| 
  mA0 rfl <| 
  mA0 rfl <| 
  mA0 rfl <| 
  mA0 rfl <| 
  mA0 rfl <| 
  mA0 rfl <| 
  mA0 rfl <| 
  mA0 rfl <| 
  mA0 rfl <| 
  mA0 rfl <| 
  mA0 rfl <| 
  mA0 rfl <| 
  mA0 rfl <| 
  mA0 rfl <| 
  mA0 rfl <| 
  mA0 rfl <| 
  mA0 rfl <| 
  mA1 rfl (⟨⟨Nat.le_of_ble_eq_true rfl, Nat.le_of_ble_eq_true rfl, Nat.le_of_ble_eq_true rfl, cal_333⟩, gw_1180, Or.inl gw_1179⟩) <| 
  mA0 rfl <| 
  mA0 rfl <| 
  mA0 rfl <| 
  mA0 rfl <| 
  mA0 rfl <| trivial

theorem mc_364_7 : mAllP 364 mt_364_7 :=
  mA0 rfl <| 
  mA0 rfl <| 
  mA0 rfl <| 
  mA0 rfl <| 
  mA0 rfl <| 
  mA0 rfl <| 
  mA0 rfl <| 
  mA0 rfl <| 
  mA1 rfl (⟨⟨Nat.le_of_ble_eq_true rfl, Nat.le_of_ble_eq_true rfl, Nat.le_of_ble_eq_true rfl, cal_334⟩, gw_1188, Or.inl gw_1187⟩) <| 
  mA0 rfl <| 
  mA0 rfl <| 
  mA1 rfl (⟨⟨Nat.le_of_ble_eq_true rfl, Nat.le_of_ble_eq_true rfl, Nat.le_of_ble_eq_true rfl, cal_147⟩, rfl, gw_741, gw_742, gw_743, _, rfl, rfl⟩) <| 
  mA0 rfl <| 
  mA0 rfl <| 
  mA0 rfl <| 
  mA1 rfl (⟨⟨Nat.le_of_ble_eq_true rfl, Nat.le_of_ble_eq_true rfl, Nat.le_of_ble_eq_true rfl, cal_156⟩, rfl, gw_754, gw_755, gw_756, _, rfl, rfl⟩) <| 
  mA0 rfl <| 
  mA0 rfl <| 
  mA0 rfl <| 
  mA0 rfl <| 
  mA0 rfl <| 
  mA0 rfl <| 
  mA0 rfl <| 
  mA0 rfl <| 
  mA0 rfl <| 
  mA0 rfl <| 
  mA0 rfl <| 
  mA0 rfl <| 
  mA1 rfl (⟨⟨Nat.le_of_ble_eq_true rfl, Nat.le_of_ble_eq_true rfl, Nat.le_of_ble_eq_true rfl, cal_160⟩, rfl, gw_758, gw_759, gw_760, _, rfl, rfl⟩) <| 
  mA0 rfl <| 
  mA0 rfl <| 
  mA0 rfl <| 
  mA0 rfl <| 
  mA0 rfl <| 
  mA0 rfl <| 
  mA1 rfl (⟨⟨Nat.le_of_ble_eq_true rfl, Nat.le_of_ble_eq_true rfl, Nat.le_of_ble_eq_true rfl, cal_160⟩, rfl, gw_758, gw_759, gw_760, _, rfl, rfl⟩) <| 
  mA0 rfl <| 
  mA0 rfl <| 
  mA0 rfl <| 
  mA0 rfl <| 
  mA0 rfl <| 
  mA0 rfl <| 
  mA0 rfl <| 
  mA0 rfl <| 
  mA0 rfl <| 
  mA0 rfl <| 
  mA0 rfl <| 
  mA0 rfl <| 
  mA0 rfl <| 
  mA0 rfl <| 
  mA0 rfl <| 
  mA0 rfl <| 
  mA0 rfl <| 
  mA0 rfl <| 
  mA0 rfl <| 
  mA1 rfl (⟨⟨Nat.le_of_ble_eq_true rfl, Nat.le_of_ble_eq_true rfl, Nat.le_of_ble_eq_true rfl, cal_337⟩, gw_1234, Or.inl gw_1233⟩) <| 
  mA0 rfl <| 
  mA0 rfl <| 
  mA0 rfl <| 
  mA0 rfl <| 
  mA0 rfl <| 
  mA0 rfl <| 
  mA0 rfl <| 
  mA0 rfl <| 
  mA0 rfl <| 
  mA0 rfl <| 
  mA0 rfl <| 
  mA1 rfl (⟨⟨Nat.le_of_ble_eq_true rfl, Nat.le_of_ble_eq_true rfl, Nat.le_of_ble_eq_true rfl, cal_336⟩, gw_1227, Or.inl gw_1226⟩) <| 
  mA0 rfl <| 
  mA0 rfl <| 
  mA0 rfl <| 
  mA0 rfl <| 
  mA0 rfl <| 
  mA0 rfl <| 
  mA0 rfl <| 
  mA0 rfl <| 
  mA0 rfl <| 
  mA0 rfl <| 
  mA0 rfl <| 
  mA0 rfl <| 
  mA0 rfl <| 
  mA0 rfl <| 
  mA0 rfl <| 
  mA0 rfl <| 
  mA0 rfl <| 
  mA0 rfl <| 
  mA0 rfl <| 
  mA0 rfl <| 
  mA0 rfl <| 
  mA0 rfl <| 
  mA0 rfl <| 
  mA0 rfl <| 
  mA0 rfl <| 
  mA0 rfl <| 
  mA0 rfl <| 
  mA0 rfl <| 
  mA0 rfl <| 
  mA0 rfl <| 
  mA0 rfl <| 
  mA0 rfl <| 
  mA1 rfl (⟨⟨Nat.le_of_ble_eq_true rfl, Nat.le_of_ble_eq_true rfl, Nat.le_of_ble_eq_true rfl, cal_332⟩, gw_809, Or.inl gw_808⟩) <| 
  mA0 rfl <| 
  mA0 rfl <| 
  mA0 rfl <| 
  mA0 rfl <| 
  mA0 rfl <| 
  mA0 rfl <| 
  mA0 rfl <| 
  mA0 rfl <| 
  mA0 rfl <| 
  mA0 rfl <| 
  mA0 rfl <| 
  mA0 rfl <| 
  mA0 rfl <| 
  mA0 rfl <| 
  mA0 rfl <| 
  mA0 rfl <| 
  mA0 rfl <| 
  mA0 rfl <| 
  mA0 rfl <| trivial

theorem mc_364_8 : mAllP 364 mt_364_8 :=
  mA1 rfl (Or.inr ⟨by decide, rfl⟩) <| trivial
