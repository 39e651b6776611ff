/-! The law's loop. -/
section LOOP
variable {Ls N N1 k pc n a b c p q w tn tu Y t e X j ru m kk dd : Nat} {L : mLs} {r st : List mV} {σ σ' σ0 σ1 σ2 : Sg} {post : tP} {i x y z v d : Int} {v11 v12 v13 v14 v15 v16 v17 v18 v19 v20 : Option mV}
theorem LI.rng (h : LI σ p q w) : p ≤ 30 ∧ q ≤ 12 ∧ w ≤ 10 := by
  obtain ⟨B, M, ds, an, tx, D3, o3, R3, hd, en, bf, ws, rs, rd, PA, PB, hh, ww, h, ⟨hds, hrd, hrs, htx, hA, h12, h10⟩, hp, hq, hw⟩ := h
  have hl := h.1.lens
  omega
theorem tr_sc (hi : 0 ≤ m32 i ∧ m32 i < Ls) (he : mPg.1 k pc = some (.iaload, n, a, b, c)) (K : Tr Ls N k (pc + n) L (mI (σ.2 0 (m32 i).toNat) :: r) σ post) : Tr Ls N k pc L (mI i :: mP (some 0) :: r) σ post := by
  refine tr_step he (fun h hr => ⟨h, ?_, hr⟩) K
  simp only [mstep, mix, mrd]
  have hz : msz h 0 0 = some Ls := by
    unfold msz
    rw [hr.1]
    rfl
  rw [hz]
  dsimp only
  rw [if_pos hi, hr.2.2.2.1 0 _ (by decide) rfl]
  rfl
theorem tr_al0 (hL : Ls ≤ 3072) (he : mPg.1 k pc = some (.arraylength, n, a, b, c)) (K : Tr Ls N k (pc + n) L (mI (Ls : Int) :: r) σ post) : Tr Ls N k pc L (mP (some 0) :: r) σ post := by
  refine tr_step he (fun h hr => ⟨h, ?_, hr⟩) K
  simp only [mstep, mp1]
  rw [hr.1]
  show (if 0 ≤ 6 ∧ Ls < 2147483648 then mnx (pc + n) L (mI Ls :: r) h else none) = _
  rw [if_pos ⟨by omega, by omega⟩]
  rfl
set_option maxRecDepth 8000 in
/-- a turn, its number at hand -/
theorem law_133 (h : LI σ p q w) (htu : tu < 1000) (K : hdK Ls N p q w tn tu post ∧ ∀ p' q' w', hdK Ls N p' q' w' tn tu post) : Tr Ls (N + 41) 364 133 (lwV p q w tn tu v11 v12 v13 v14 v15 v16 v17 v18 v19 v20) [mI x] σ post := by
  obtain ⟨hp30, hq12, hw10⟩ := h.rng
  iterate 4 (refine tr_mv rfl (fun _ => rfl) ?_)
  refine tr_mv rfl (fun _ => rfl) ?_
  refine tr_andm (m := 268435455) (by decide) rfl (fun Y hY => ?_)
  have m3 : Y % 3 < 3 := Nat.mod_lt _ (by decide)
  have d2 : Y / 2 ^ 2 ≤ Y := Nat.div_le_self _ _
  have key : ∀ dd : Nat, dd ≤ 15 → Tr Ls (N + 41) 364 182 (lwV p q w tn tu (some (mI x)) (some (mI (Y : Int))) v13 v14 v15 v16 v17 v18 v19 v20) [mI (dd : Int)] σ post := by
    intro dd hdd
    have key2 : ∀ e : Nat, (0 < q → e < q) → (q = 0 → e = 0) → Tr Ls (N + 41) 364 206 (lwV p q w tn tu (some (mI x)) (some (mI (Y : Int))) (some (mI (dd : Int))) (some (mI ((Y % 3 : Nat) : Int))) v15 v16 v17 v18 v19 v20) [mI (e : Int)] σ post := by
      intro e he he0
      iterate 1 (refine tr_mv rfl (fun _ => rfl) ?_)
      refine law_208 h (by omega) hdd m3 hp30 hq12 hw10 he (fun σ' p' q' w' v16 v17 v18 v19 v20 hqq h' => ?_)
      exact law_1543 h' (fun g => by
        by_cases c : 0 < q
        · have := he c
          omega
        · rw [he0 (by omega)]
          exact g) (by omega) m3 htu (K.2 p' q' w')
    iterate 3 (refine tr_mv rfl (fun _ => rfl) ?_)
    refine tr_remn (a := Y) (b := 3) (by omega) (by omega) rfl ?_
    iterate 2 (refine tr_mv rfl (fun _ => rfl) ?_)
    refine tr_if2 rfl (m32_of (by omega)) (fun c1 => ?_) (fun c1 => ?_)
    · iterate 2 (refine tr_mv rfl (fun _ => rfl) ?_)
      refine tr_shrn (a := Y) (p := 2) (by omega) (by decide) rfl ?_
      iterate 1 (refine tr_mv rfl (fun _ => rfl) ?_)
      have mq : Y / 2 ^ 2 % q < q := Nat.mod_lt _ (by omega)
      refine tr_remn (a := Y / 2 ^ 2) (b := q) (by omega) (by omega) rfl ?_
      exact key2 _ (fun _ => mq) (fun g => by omega)
    · iterate 2 (refine tr_mv rfl (fun _ => rfl) ?_)
      exact key2 0 (fun g => g) (fun _ => rfl)
  iterate 3 (refine tr_mv rfl (fun _ => rfl) ?_)
  refine tr_cmp2 rfl (m32_of (by omega)) (m32_of (by omega)) (fun c1 => ?_) (fun c1 => ?_)
  · iterate 2 (refine tr_mv rfl (fun _ => rfl) ?_)
    refine tr_cmp2 rfl (m32_of (by omega)) (m32_of (by omega)) (fun c2 => ?_) (fun c2 => ?_)
    · iterate 2 (refine tr_mv rfl (fun _ => rfl) ?_)
      refine tr_cmp2 rfl (m32_of (by omega)) (m32_of (by omega)) (fun c3 => ?_) (fun c3 => ?_)
      · iterate 2 (refine tr_mv rfl (fun _ => rfl) ?_)
        refine tr_andm (m := 15) (by decide) rfl (fun s hs => ?_)
        exact key s hs
      · iterate 2 (refine tr_mv rfl (fun _ => rfl) ?_)
        exact key 6 (by decide)
    · iterate 2 (refine tr_mv rfl (fun _ => rfl) ?_)
      exact key 1 (by decide)
  · iterate 2 (refine tr_mv rfl (fun _ => rfl) ?_)
    exact key 0 (by decide)
set_option maxRecDepth 8000 in
theorem law_loop (hL : Ls ≤ 260) (htn : tn ≤ 200) : ∀ (m tu p q w : Nat) (σ : Sg) (v11 v12 v13 v14 v15 v16 v17 v18 v19 v20 : Option mV), LI σ p q w → m + tu = tn → Tr Ls (41 * m) 364 89 (lwV p q w tn tu v11 v12 v13 v14 v15 v16 v17 v18 v19 v20) [] σ (fun o _ => o = .inl (some (mI 1))) := by
  intro m
  induction m with
  | zero =>
    intro tu p q w σ v11 v12 v13 v14 v15 v16 v17 v18 v19 v20 h hm
    iterate 2 (refine tr_mv rfl (fun _ => rfl) ?_)
    refine tr_cmp2 rfl (m32_of (by omega)) (m32_of (by omega)) (fun c1 => ?_) (fun c1 => ?_)
    · iterate 1 (refine tr_mv rfl (fun _ => rfl) ?_)
      exact tr_reti rfl (Or.inr (Or.inr rfl)) rfl
    · exfalso
      omega
  | succ m ih =>
    intro tu p q w σ v11 v12 v13 v14 v15 v16 v17 v18 v19 v20 h hm
    have hK : ∀ p' q' w', hdK Ls (41 * m) p' q' w' tn tu (fun o _ => o = .inl (some (mI 1))) := fun p' q' w' σ' v11 v12 v13 v14 v15 v16 v17 v18 v19 v20 h' => ih (tu + 1) p' q' w' σ' v11 v12 v13 v14 v15 v16 v17 v18 v19 v20 h' (by omega)
    rw [show 41 * (m + 1) = 41 * m + 41 by omega]
    iterate 2 (refine tr_mv rfl (fun _ => rfl) ?_)
    refine tr_cmp2 rfl (m32_of (by omega)) (m32_of (by omega)) (fun c1 => ?_) (fun c1 => ?_)
    · exfalso
      omega
    iterate 4 (refine tr_mv rfl (fun _ => rfl) ?_)
    refine tr_al0 (by omega) rfl ?_
    refine tr_cmp2 rfl (m32_of (by omega)) (m32_of (by omega)) (fun c2 => ?_) (fun c2 => ?_)
    · iterate 11 (refine tr_mv rfl (fun _ => rfl) ?_)
      exact law_133 h (by omega) ⟨hK p q w, hK⟩
    · iterate 2 (refine tr_mv rfl (fun _ => rfl) ?_)
      have e : m32 (tu : Int) = (tu : Int) := m32_of (by omega)
      refine tr_sc (by rw [e]; omega) rfl ?_
      iterate 1 (refine tr_mv rfl (fun _ => rfl) ?_)
      exact law_133 h (by omega) ⟨hK p q w, hK⟩
set_option maxRecDepth 8000 in
/-- behind the constructors -/
theorem law_33 (hL : Ls ≤ 260) (h : LI σ 0 0 0) : Tr Ls 8300 364 33 [some (mP (some 0)), some (mP (some 2)), some (mP (some 480)), some (mP (some 481)), some (mP (some 482)), some (mI 0), some (mI 0), some (mI 0), none, none, none, none, none, none, none, none, none, none, none, none, none] [] σ (fun o _ => o = .inl (some (mI 1))) := by
  have h0 := h
  obtain ⟨B, M, ds, an, tx, D3, o3, R3, hd, en, bf, ws, rs, rd, PA, PB, hh, ww, h, ⟨hds, hrd, hrs, htx, hA, h12, h10⟩, hp, hq, hw⟩ := h
  have key : ∀ tn : Nat, tn ≤ 200 → Tr Ls 8200 364 84 [some (mP (some 0)), some (mP (some 2)), some (mP (some 480)), some (mP (some 481)), some (mP (some 482)), some (mI 0), some (mI 0), some (mI 0), some (mI 1), none, none, none, none, none, none, none, none, none, none, none, none] [mI (tn : Int)] σ (fun o _ => o = .inl (some (mI 1))) := by
    intro tn htn
    iterate 3 (refine tr_mv rfl (fun _ => rfl) ?_)
    exact tr_mono (law_loop hL htn tn 0 0 0 0 σ none none none none none none none none none none h0 (Nat.add_zero _)) (by omega)
  iterate 1 (refine tr_mv rfl (fun _ => rfl) ?_)
  refine tr_vc (q := 2) rfl ⟨by decide, by decide +kernel⟩ rfl rfl rfl (q_147 h ?_)
  rw [hp]
  rw [show ((0 : Nat) : Int) = 0 from rfl]
  iterate 3 (refine tr_mv rfl (fun _ => rfl) ?_)
  refine tr_stat1 (N := 8299) rfl rfl rfl (s_335 (X := 1) (N := 0) h (by decide) ?_)
  refine tr_mono (N1 := 8200) ?_ (by omega)
  iterate 5 (refine tr_mv rfl (fun _ => rfl) ?_)
  refine tr_al0 (by omega) rfl ?_
  iterate 1 (refine tr_mv rfl (fun _ => rfl) ?_)
  refine tr_cmp2 rfl (m32_of (by omega)) (m32_of (by omega)) (fun c1 => ?_) (fun c1 => ?_)
  · iterate 1 (refine tr_mv rfl (fun _ => rfl) ?_)
    refine tr_al0 (by omega) rfl ?_
    iterate 1 (refine tr_mv rfl (fun _ => rfl) ?_)
    refine tr_cmp2 rfl (m32_of (by omega)) (m32_of (by omega)) (fun c2 => ?_) (fun c2 => ?_)
    · iterate 1 (refine tr_mv rfl (fun _ => rfl) ?_)
      exact key 150 (by decide)
    · iterate 2 (refine tr_mv rfl (fun _ => rfl) ?_)
      refine tr_al0 (by omega) rfl ?_
      iterate 2 (refine tr_mv rfl (fun _ => rfl) ?_)
      have := key (2 * Ls) (by omega)
      rw [show ((2 * Ls : Nat) : Int) = 2 * (Ls : Int) by omega] at this
      exact this
  · iterate 2 (refine tr_mv rfl (fun _ => rfl) ?_)
    exact key 100 (by decide)
end LOOP
