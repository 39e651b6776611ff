/-! References that lead somewhere: the model's. -/
theorem wlk_in {en : List EnT} (hR : okRf en) : ∀ (d : Nat) (e : Int), (-1 ≤ e ∧ e < (en.length : Int)) → -1 ≤ wlk en d e ∧ wlk en d e < (en.length : Int)
  | 0, e, he => by
    show (-1 : Int) ≤ -1 ∧ (-1 : Int) < _
    omega
  | d + 1, e, he => by
    rw [show wlk en (d + 1) e = if e = -1 then -1 else if lcd en e.toNat then e else wlk en d (nxE en e) from rfl]
    split
    · omega
    · split
      · exact he
      · exact wlk_in hR d _ (nxE_in hR he)
theorem okLoc_nil {L M : List Int} (h : okLoc L M) : (0 < (M.length : Int)) ↔ L ≠ [] := by
  rw [h.len]
  cases L with
  | nil => simp
  | cons x l => simp only [List.length_cons, ne_eq, reduceCtorEq, not_false_eq_true, iff_true]; omega
section MLEAD
variable {Ls N k pc n n' nn b c t a q kd w d p X T : Nat} {L0 : mLs} {st r as : List mV} {h h' : mH} {σ σ' σ'' : Sg} {post : tP} {x y z x' y' i i' s v m u lv : Int} {xs ys ss L M A B : List Int} {e : mE} {C : Nat → Nat → Prop} {R : Nat → Prop} {tx : List (List Int)} {en : List EnT}
theorem s_307 (hE : okEn tx en) (hok : ∀ e ∈ en, okLoc (enL e) (enM e)) (cE : mEn σ en) (ha : a < en.length) (K : post (.inl (some (mI (b2 (lcd en a))))) σ) : Tr Ls N 307 0 [some (mP (some 480)), some (mI (a : Int)), none, none] [] σ post := by
  have hE24 := hE.1
  have loop : ∀ (d j : Nat) (v : Int), j + d = en.length → (v = 0 ∨ v = 1) → (v = 1 ↔ ∃ k, k < j ∧ hitL en a k) → Tr Ls N 307 4 [some (mP (some 480)), some (mI (a : Int)), some (mI v), some (mI (j : Int))] [] σ post := by
    intro d
    induction d with
    | zero =>
      intro j v e hv hw
      repeat (first | refine tr_mgr rfl (by decide) rfl ?_ | refine tr_mgi rfl (by decide) (by decide) rfl ?_ | refine tr_mv rfl (fun _ => rfl) ?_)
      rw [cE.1]
      refine tr_cmp2 rfl (m32_of (by omega)) (m32_of (by omega)) (fun _ => ?_) (fun c9 => absurd (show (en.length : Int) ≤ (j : Int) by omega) c9)
      iterate 1 (refine tr_mv rfl (fun _ => rfl) ?_)
      have hl : lcd en a ↔ v = 1 := by
        rw [lcd_iff, hw]
        exact ⟨fun ⟨k, h1, h2⟩ => ⟨k, by omega, h2⟩, fun ⟨k, h1, h2⟩ => ⟨k, by omega, h2⟩⟩
      rcases hv with rfl | rfl
      · exact tr_rb0 rfl (fun g => absurd (hl.mp g) (by decide)) K
      · exact tr_rb1 rfl (hl.mpr rfl) K
    | succ d ih =>
      intro j v e hv hw
      have hj : j < en.length := by omega
      have hpr := okPr_in hE j hj
      have hk := hok _ (en_mem hj)
      have hk10 := hk.2.2.2.2.1
      have hkl := hk.len
      repeat (first | refine tr_mgr rfl (by decide) rfl ?_ | refine tr_mgi rfl (by decide) (by decide) rfl ?_ | refine tr_mv rfl (fun _ => rfl) ?_)
      rw [cE.1]
      refine tr_cmp2 rfl (m32_of (by omega)) (m32_of (by omega)) (fun c9 => absurd (show (en.length : Int) ≤ (j : Int) from c9) (by omega)) (fun _ => ?_)
      have fin : ∀ w : Int, (w = 0 ∨ w = 1) → (w = 1 ↔ ∃ k, k < j + 1 ∧ hitL en a k) → Tr Ls N 307 45 [some (mP (some 480)), some (mI (a : Int)), some (mI v), some (mI (j : Int))] [mI w] σ post := by
        intro w h1 h2
        iterate 3 (refine tr_mv rfl (fun _ => rfl) ?_)
        show Tr Ls N 307 4 [some (mP (some 480)), some (mI (a : Int)), some (mI w), some (mI ((j : Int) + 1))] [] σ post
        rw [show (j : Int) + 1 = ((j + 1 : Nat) : Int) by omega]
        exact ih (j + 1) w (by omega) h1 h2
      rcases hv with rfl | rfl
      · have hno : ¬ ∃ k, k < j ∧ hitL en a k := fun g => absurd (hw.mpr g) (by decide)
        have out : ¬ hitL en a j → ((0 : Int) = 1 ↔ ∃ k, k < j + 1 ∧ hitL en a k) := fun h1 => ⟨fun g => absurd g (by decide), fun ⟨k, g1, g2⟩ => by
          by_cases g : k = j
          · rw [g] at g2; exact absurd g2 h1
          · exact absurd ⟨k, by omega, g2⟩ hno⟩
        have own : (j = a ∨ prE en j = (a : Int)) → Tr Ls N 307 31 [some (mP (some 480)), some (mI (a : Int)), some (mI 0), some (mI (j : Int))] [] σ post := by
          intro h1
          repeat (first | refine tr_mgr rfl (by decide) rfl ?_ | refine tr_mgi rfl (by decide) (by decide) rfl ?_ | refine tr_mv rfl (fun _ => rfl) ?_)
          refine tr_man (j := j) rfl (by omega) (by omega) rfl (fun _ => rfl) rfl rfl rfl ?_
          rw [(cE.2.2 j (by omega)).2.2.2.1]
          refine tr_if2 rfl (m32_of (by omega)) (fun c5 => ?_) (fun c5 => ?_)
          · have c6 : ((enM (en.getD j enD)).length : Int) ≤ 0 := c5
            iterate 1 (refine tr_mv rfl (fun _ => rfl) ?_)
            exact fin 0 (Or.inl rfl) (out (fun h2 => by have := (okLoc_nil hk).mpr h2.2; omega))
          · have c6 : ¬ ((enM (en.getD j enD)).length : Int) ≤ 0 := c5
            iterate 2 (refine tr_mv rfl (fun _ => rfl) ?_)
            exact fin 1 (Or.inr rfl) ⟨fun _ => ⟨j, by omega, h1, (okLoc_nil hk).mp (by omega)⟩, fun _ => rfl⟩
        iterate 4 (refine tr_mv rfl (fun _ => rfl) ?_)
        refine tr_cmp2 rfl (m32_of (by omega)) (m32_of (by omega)) (fun c3 => ?_) (fun c3 => ?_)
        · have c4 : (j : Int) = (a : Int) := c3
          exact own (Or.inl (by omega))
        · have c4 : ¬ (j : Int) = (a : Int) := c3
          repeat (first | refine tr_mgr rfl (by decide) rfl ?_ | refine tr_mgi rfl (by decide) (by decide) rfl ?_ | refine tr_mv rfl (fun _ => rfl) ?_)
          refine tr_man (j := j) rfl (by omega) (by omega) rfl (fun _ => rfl) rfl rfl rfl ?_
          rw [(cE.2.1 j hj).1, ← prE_iff]
          iterate 1 (refine tr_mv rfl (fun _ => rfl) ?_)
          refine tr_cmp2 rfl (m32_of (by omega)) (m32_of (by omega)) (fun c5 => ?_) (fun c5 => ?_)
          · have c6 : ¬ prE en j = (a : Int) := c5
            iterate 1 (refine tr_mv rfl (fun _ => rfl) ?_)
            exact fin 0 (Or.inl rfl) (out (fun h2 => by rcases h2.1 with g | g; exact c4 (by omega); exact c6 g))
          · exact own (Or.inr (Decidable.of_not_not c5))
      · iterate 4 (refine tr_mv rfl (fun _ => rfl) ?_)
        obtain ⟨k, g1, g2⟩ := hw.mp rfl
        exact fin 1 (Or.inr rfl) ⟨fun _ => ⟨k, by omega, g2⟩, fun _ => rfl⟩
  iterate 4 (refine tr_mv rfl (fun _ => rfl) ?_)
  exact loop en.length 0 0 (by omega) (Or.inl rfl) ⟨fun g => absurd g (by decide), fun ⟨k, g1, _⟩ => absurd g1 (Nat.not_lt_zero _)⟩
theorem s_308 (hE : okEn tx en) (hR : okRf en) (hok : ∀ e ∈ en, okLoc (enL e) (enM e)) (cE : mEn σ en) (hx : -1 ≤ x ∧ x < (en.length : Int)) (K : post (.inl (some (mI (endE en x)))) σ) : Tr Ls N 308 0 [some (mP (some 480)), some (mI x), none, none] [] σ post := by
  have hE24 := hE.1
  rw [← wlk_end hR hx] at K
  have last : ∀ (e : Int) (v3 : Option mV), (-1 ≤ e ∧ e < (en.length : Int)) → post (.inl (some (mI (wlk en 1 e)))) σ → Tr Ls N 308 38 [some (mP (some 480)), some (mI x), some (mI e), v3] [] σ post := by
    intro e v3 he k
    rw [show wlk en 1 e = if e = -1 then -1 else if lcd en e.toNat then e else -1 from rfl] at k
    iterate 2 (refine tr_mv rfl (fun _ => rfl) ?_)
    refine tr_cmp2 rfl (m32_of (by omega)) (m32_of (by omega)) (fun c3 => ?_) (fun c3 => ?_)
    · have c4 : e = -1 := c3
      rw [if_pos c4] at k
      iterate 1 (refine tr_mv rfl (fun _ => rfl) ?_)
      exact tr_ri rfl rfl k
    · have c4 : ¬ e = -1 := c3
      rw [if_neg c4] at k
      obtain ⟨a, rfl⟩ : ∃ a : Nat, e = (a : Int) := ⟨e.toNat, by omega⟩
      rw [Int.toNat_natCast] at k
      iterate 2 (refine tr_mv rfl (fun _ => rfl) ?_)
      refine tr_vc (q := 480) rfl isO_480 rfl rfl rfl (s_307 hE hok cE (by omega) ?_)
      first | refine tr_ib rfl (fun c5 => ?_) (fun c5 => ?_) | refine tr_ibn rfl (fun c5 => ?_) (fun c5 => ?_)
      · rw [if_neg c5] at k
        iterate 1 (refine tr_mv rfl (fun _ => rfl) ?_)
        exact tr_ri rfl rfl k
      · rw [if_pos c5] at k
        iterate 2 (refine tr_mv rfl (fun _ => rfl) ?_)
        exact tr_ri rfl rfl k
  have loop : ∀ (d j : Nat) (e : Int), j + d = en.length + 1 → (-1 ≤ e ∧ e < (en.length : Int)) → post (.inl (some (mI (wlk en (d + 1) e)))) σ → Tr Ls N 308 4 [some (mP (some 480)), some (mI x), some (mI e), some (mI (j : Int))] [] σ post := by
    intro d
    induction d with
    | zero =>
      intro j e ej he k
      repeat (first | refine tr_mgr rfl (by decide) rfl ?_ | refine tr_mgi rfl (by decide) (by decide) rfl ?_ | refine tr_mv rfl (fun _ => rfl) ?_)
      rw [cE.1]
      refine tr_cmp2 rfl (m32_of (by omega)) (m32_of (by omega)) (fun _ => ?_) (fun c9 => absurd (show (en.length : Int) < (j : Int) by omega) c9)
      exact last e _ he k
    | succ d ih =>
      intro j e ej he k
      have k0 := k
      rw [show wlk en (d + 1 + 1) e = if e = -1 then -1 else if lcd en e.toNat then e else wlk en (d + 1) (nxE en e) from rfl] at k
      repeat (first | refine tr_mgr rfl (by decide) rfl ?_ | refine tr_mgi rfl (by decide) (by decide) rfl ?_ | refine tr_mv rfl (fun _ => rfl) ?_)
      rw [cE.1]
      refine tr_cmp2 rfl (m32_of (by omega)) (m32_of (by omega)) (fun c9 => absurd (show (en.length : Int) < (j : Int) from c9) (by omega)) (fun _ => ?_)
      iterate 2 (refine tr_mv rfl (fun _ => rfl) ?_)
      refine tr_cmp2 rfl (m32_of (by omega)) (m32_of (by omega)) (fun c3 => ?_) (fun c3 => ?_)
      · have c4 : e = -1 := c3
        rw [if_pos c4] at k
        refine last e _ he ?_
        rw [show wlk en 1 e = if e = -1 then -1 else if lcd en e.toNat then e else -1 from rfl, if_pos c4]
        exact k
      · have c4 : ¬ e = -1 := c3
        rw [if_neg c4] at k
        obtain ⟨a, rfl⟩ : ∃ a : Nat, e = (a : Int) := ⟨e.toNat, by omega⟩
        have ha : a < en.length := by omega
        iterate 2 (refine tr_mv rfl (fun _ => rfl) ?_)
        refine tr_vc (q := 480) rfl isO_480 rfl rfl rfl (s_307 hE hok cE ha ?_)
        first | refine tr_ib rfl (fun c5 => ?_) (fun c5 => ?_) | refine tr_ibn rfl (fun c5 => ?_) (fun c5 => ?_)
        · refine last (a : Int) _ he ?_
          rw [show wlk en 1 (a : Int) = if (a : Int) = -1 then -1 else if lcd en (a : Int).toNat then (a : Int) else -1 from rfl, if_neg c4]
          rw [Int.toNat_natCast, if_pos c5] at k ⊢
          exact k
        · rw [Int.toNat_natCast, if_neg c5] at k
          have hn : nxE en (a : Int) = enX (en.getD a enD) := if_neg c4
          have hn2 := nxE_in hR he
          repeat (first | refine tr_mgr rfl (by decide) rfl ?_ | refine tr_mgi rfl (by decide) (by decide) rfl ?_ | refine tr_mv rfl (fun _ => rfl) ?_)
          refine tr_man (j := a) rfl (by omega) (by omega) rfl (fun _ => rfl) rfl rfl rfl ?_
          rw [(cE.2.1 a ha).2.2.2, ← hn]
          iterate 3 (refine tr_mv rfl (fun _ => rfl) ?_)
          show Tr Ls N 308 4 [some (mP (some 480)), some (mI x), some (mI (nxE en (a : Int))), some (mI ((j : Int) + 1))] [] σ post
          rw [show (j : Int) + 1 = ((j + 1 : Nat) : Int) by omega]
          exact ih (j + 1) _ (by omega) hn2 k
  iterate 4 (refine tr_mv rfl (fun _ => rfl) ?_)
  exact loop (en.length + 1) 0 x (by omega) hx K
theorem s_309 (hE : okEn tx en) (hR : okRf en) (hok : ∀ e ∈ en, okLoc (enL e) (enM e)) (cE : mEn σ en) (hi : in32 i) (K1 : ¬ (0 ≤ i ∧ i < (en.length : Int)) → post (.inl (some (mI 0))) (setF σ 480 0 1)) (K2 : (0 ≤ i ∧ i < (en.length : Int)) → post (.inl (some (mI (endE en i)))) (setF σ 480 0 0)) : Tr Ls N 309 0 [some (mP (some 480)), some (mI i)] [] σ post := by
  have hE24 := hE.1
  iterate 3 (refine tr_mv rfl (fun _ => rfl) ?_)
  refine tr_vc (q := 480) rfl isO_480 rfl rfl rfl (s_282 hi cE.1 (by omega) ?_)
  first | refine tr_ib rfl (fun c1 => ?_) (fun c1 => ?_) | refine tr_ibn rfl (fun c1 => ?_) (fun c1 => ?_)
  · repeat (refine tr_mv rfl (fun _ => rfl) ?_)
    refine tr_vc (q := 480) rfl isO_480 rfl rfl rfl (s_210 (by decide) ?_)
    rw [b2, if_neg (by decide)]
    repeat (refine tr_mv rfl (fun _ => rfl) ?_)
    exact tr_ri rfl rfl (K1 c1)
  · repeat (refine tr_mv rfl (fun _ => rfl) ?_)
    refine tr_vc (q := 480) rfl isO_480 rfl rfl rfl (s_210 (by decide) ?_)
    rw [b2, if_pos rfl]
    repeat (refine tr_mv rfl (fun _ => rfl) ?_)
    refine tr_vc (q := 480) rfl isO_480 rfl rfl rfl (s_308 hE hR hok (cE.of (C := fun q j => q = 480 ∧ j = 0) ((only.rf (σ := σ)).setF ⟨rfl, rfl⟩) (fun q j h => by omega)) (by omega) ?_)
    iterate 1 (refine tr_mv rfl (fun _ => rfl) ?_)
    exact tr_ri rfl rfl (K2 c1)
theorem deadA_le (en : List EnT) (a : Nat) : deadA en a ≤ 1 * en.length := sumN_le (fun i _ => by split <;> omega)
theorem s_310 (hE : okEn tx en) (hR : okRf en) (hok : ∀ e ∈ en, okLoc (enL e) (enM e)) (cE : mEn σ en) (K : post (.inl (some (mI (deadM en : Int)))) (setF σ 480 0 0)) : Tr Ls N 310 0 [some (mP (some 480)), none, none, none] [] σ post := by
  have hE24 := hE.1
  have cE2 : mEn (setF σ 480 0 0) en := cE.of (C := fun q j => q = 480 ∧ j = 0) ((only.rf (σ := σ)).setF ⟨rfl, rfl⟩) (fun q j h => by omega)
  iterate 2 (refine tr_mv rfl (fun _ => rfl) ?_)
  refine tr_mpi rfl (Or.inl rfl) (by decide) rfl ?_
  generalize setF σ 480 0 0 = S at *
  have inner : ∀ (a acc : Nat), a < en.length → acc < 100000 → (∀ v, Tr Ls N 310 96 [some (mP (some 480)), some (mI ((acc + deadA en a : Nat) : Int)), some (mI (a : Int)), v] [] S post) → ∀ (d j : Nat), j + d = en.length → Tr Ls N 310 51 [some (mP (some 480)), some (mI ((acc + sumN (fun b => if bE en a b ∧ endE en (b : Int) = -1 then 1 else 0) j : Nat) : Int)), some (mI (a : Int)), some (mI (j : Int))] [] S post := by
    intro a acc ha hacc G d
    induction d with
    | zero =>
      intro j e
      repeat (first | refine tr_mgr rfl (by decide) rfl ?_ | refine tr_mgi rfl (by decide) (by decide) rfl ?_ | refine tr_mv rfl (fun _ => rfl) ?_)
      rw [cE2.1]
      refine tr_cmp2 rfl (m32_of (by omega)) (m32_of (by omega)) (fun _ => ?_) (fun c9 => absurd (show (en.length : Int) ≤ (j : Int) by omega) c9)
      have g := G (some (mI (j : Int)))
      unfold deadA at g
      rw [show j = en.length by omega]
      rw [show j = en.length by omega] at g
      exact g
    | succ d ih =>
      intro j e
      have hj : j < en.length := by omega
      have k := ih (j + 1) (by omega)
      have hle := sumN_le (f := fun b => if bE en a b ∧ endE en (b : Int) = -1 then 1 else 0) (c := 1) (n := j) (fun i _ => by show (if _ then 1 else 0) ≤ 1; split <;> omega)
      rw [show sumN (fun b => if bE en a b ∧ endE en (b : Int) = -1 then 1 else 0) (j + 1) = sumN (fun b => if bE en a b ∧ endE en (b : Int) = -1 then 1 else 0) j + (if bE en a j ∧ endE en (j : Int) = -1 then 1 else 0) from rfl] at k
      generalize sumN (fun b => if bE en a b ∧ endE en (b : Int) = -1 then 1 else 0) j = ac2 at k hle ⊢
      have hO : S.2 521 a = (enO (en.getD a enD) : Int) := (cE2.2.2 a (by omega)).2.2.1
      have hm := hR.o24 hE24 (en_mem ha)
      have d1 : enO (en.getD a enD) / 2 ^ j < 2 ^ 31 := Nat.lt_of_le_of_lt (Nat.div_le_self _ _) (by omega)
      have h2 : enO (en.getD a enD) / 2 ^ j % 2 < 2 := Nat.mod_lt _ (by decide)
      have hin := wlk_in hR (en.length + 1) (j : Int) (by omega)
      repeat (first | refine tr_mgr rfl (by decide) rfl ?_ | refine tr_mgi rfl (by decide) (by decide) rfl ?_ | refine tr_mv rfl (fun _ => rfl) ?_)
      rw [cE2.1]
      refine tr_cmp2 rfl (m32_of (by omega)) (m32_of (by omega)) (fun c9 => absurd (show (en.length : Int) ≤ (j : Int) from c9) (by omega)) (fun _ => ?_)
      have t88 : ∀ v : Nat, v = (if bE en a j ∧ endE en (j : Int) = -1 then 1 else 0) → Tr Ls N 310 88 [some (mP (some 480)), some (mI ((acc + ac2 : Nat) : Int)), some (mI (a : Int)), some (mI (j : Int))] [mI (v : Int), mI ((acc + ac2 : Nat) : Int)] S post := by
        intro v hv
        iterate 4 (refine tr_mv rfl (fun _ => rfl) ?_)
        show Tr Ls N 310 51 [some (mP (some 480)), some (mI (((acc + ac2 : Nat) : Int) + (v : Int))), some (mI (a : Int)), some (mI ((j : Int) + 1))] [] S post
        rw [show (j : Int) + 1 = ((j + 1 : Nat) : Int) by omega, show ((acc + ac2 : Nat) : Int) + (v : Int) = ((acc + (ac2 + v) : Nat) : Int) by omega, hv]
        exact k
      repeat (first | refine tr_mgr rfl (by decide) rfl ?_ | refine tr_mgi rfl (by decide) (by decide) rfl ?_ | refine tr_mv rfl (fun _ => rfl) ?_)
      refine tr_man (j := a) rfl (by omega) (by omega) rfl (fun _ => rfl) rfl rfl rfl ?_
      rw [hO]
      iterate 2 (refine tr_mv rfl (fun _ => rfl) ?_)
      refine tr_top (w_shr (a := enO (en.getD a enD)) (p := j) (by omega) (by omega)) ?_
      iterate 2 (refine tr_mv rfl (fun _ => rfl) ?_)
      refine tr_top (w_a1 d1) ?_
      iterate 1 (refine tr_mv rfl (fun _ => rfl) ?_)
      refine tr_cmp2 rfl (m32_of (by omega)) (m32_of (by omega)) (fun c3 => ?_) (fun c3 => ?_)
      · have c4 : ¬ ((enO (en.getD a enD) / 2 ^ j % 2 : Nat) : Int) = 1 := c3
        iterate 1 (refine tr_mv rfl (fun _ => rfl) ?_)
        exact t88 0 (by rw [if_neg (fun g => c4 (by have := g.1; omega))])
      · have c4 : ((enO (en.getD a enD) / 2 ^ j % 2 : Nat) : Int) = 1 := Decidable.of_not_not c3
        iterate 2 (refine tr_mv rfl (fun _ => rfl) ?_)
        refine tr_vc (q := 480) rfl isO_480 rfl rfl rfl (s_308 hE hR hok cE2 (x := (j : Int)) (by omega) ?_)
        iterate 1 (refine tr_mv rfl (fun _ => rfl) ?_)
        refine tr_cmp2 rfl (m32_of (show in32 (wlk en (en.length + 1) (j : Int)) by omega)) (m32_of (by omega)) (fun c5 => ?_) (fun c5 => ?_)
        · iterate 1 (refine tr_mv rfl (fun _ => rfl) ?_)
          exact t88 0 (by rw [if_neg (fun g => c5 g.2)])
        · iterate 2 (refine tr_mv rfl (fun _ => rfl) ?_)
          exact t88 1 (by rw [if_pos ⟨by show _ = 1; omega, Decidable.of_not_not c5⟩])
  have outer : ∀ (d j : Nat) (v3 : Option mV), j + d = en.length → Tr Ls N 310 9 [some (mP (some 480)), some (mI (sumN (fun a => (if xE en a ≠ -1 ∧ endE en (xE en a) = -1 then 1 else 0) + deadA en a) j : Int)), some (mI (j : Int)), v3] [] S post := by
    intro d
    induction d with
    | zero =>
      intro j v3 e
      repeat (first | refine tr_mgr rfl (by decide) rfl ?_ | refine tr_mgi rfl (by decide) (by decide) rfl ?_ | refine tr_mv rfl (fun _ => rfl) ?_)
      rw [cE2.1]
      refine tr_cmp2 rfl (m32_of (by omega)) (m32_of (by omega)) (fun _ => ?_) (fun c9 => absurd (show (en.length : Int) ≤ (j : Int) by omega) c9)
      iterate 1 (refine tr_mv rfl (fun _ => rfl) ?_)
      rw [show deadM en = sumN (fun a => (if xE en a ≠ -1 ∧ endE en (xE en a) = -1 then 1 else 0) + deadA en a) j by rw [show j = en.length by omega]; rfl] at K
      exact tr_ri rfl rfl K
    | succ d ih =>
      intro j v3 e
      have hj : j < en.length := by omega
      have k := fun v => ih (j + 1) v (by omega)
      have hle := sumN_le (f := fun a => (if xE en a ≠ -1 ∧ endE en (xE en a) = -1 then 1 else 0) + deadA en a) (c := 25) (n := j) (fun i _ => by have := deadA_le en i; show (if _ then 1 else 0) + _ ≤ 25; split <;> omega)
      rw [show sumN (fun a => (if xE en a ≠ -1 ∧ endE en (xE en a) = -1 then 1 else 0) + deadA en a) (j + 1) = sumN (fun a => (if xE en a ≠ -1 ∧ endE en (xE en a) = -1 then 1 else 0) + deadA en a) j + ((if xE en j ≠ -1 ∧ endE en (xE en j) = -1 then 1 else 0) + deadA en j) from rfl] at k
      generalize sumN (fun a => (if xE en a ≠ -1 ∧ endE en (xE en a) = -1 then 1 else 0) + deadA en a) j = acc at k hle ⊢
      have hX : S.2 520 j = xE en j := (cE2.2.1 j hj).2.2.2
      have hx : xE en j = -1 ∨ (0 ≤ xE en j ∧ xE en j < (en.length : Int)) := (hR _ (en_mem hj)).1
      have hin := wlk_in hR (en.length + 1) (xE en j) (by omega)
      repeat (first | refine tr_mgr rfl (by decide) rfl ?_ | refine tr_mgi rfl (by decide) (by decide) rfl ?_ | refine tr_mv rfl (fun _ => rfl) ?_)
      rw [cE2.1]
      refine tr_cmp2 rfl (m32_of (by omega)) (m32_of (by omega)) (fun c9 => absurd (show (en.length : Int) ≤ (j : Int) from c9) (by omega)) (fun _ => ?_)
      have t47 : ∀ v : Nat, v = (if xE en j ≠ -1 ∧ endE en (xE en j) = -1 then 1 else 0) → Tr Ls N 310 47 [some (mP (some 480)), some (mI (acc : Int)), some (mI (j : Int)), v3] [mI (v : Int), mI (acc : Int)] S post := by
        intro v hv
        have hv1 : v ≤ 1 := by rw [hv]; split <;> omega
        iterate 4 (refine tr_mv rfl (fun _ => rfl) ?_)
        have g := inner j (acc + v) hj (by omega) (fun w => ?_) en.length 0 (by omega)
        · rw [show ((acc + v + sumN (fun b => if bE en j b ∧ endE en (b : Int) = -1 then 1 else 0) 0 : Nat) : Int) = (acc : Int) + (v : Int) by show ((acc + v + 0 : Nat) : Int) = _; omega] at g
          exact g
        · iterate 2 (refine tr_mv rfl (fun _ => rfl) ?_)
          show Tr Ls N 310 9 [some (mP (some 480)), some (mI ((acc + v + deadA en j : Nat) : Int)), some (mI ((j : Int) + 1)), w] [] S post
          rw [show (j : Int) + 1 = ((j + 1 : Nat) : Int) by omega, show acc + v + deadA en j = acc + (v + deadA en j) by omega, hv]
          exact k w
      repeat (first | refine tr_mgr rfl (by decide) rfl ?_ | refine tr_mgi rfl (by decide) (by decide) rfl ?_ | refine tr_mv rfl (fun _ => rfl) ?_)
      refine tr_man (j := j) rfl (by omega) (by omega) rfl (fun _ => rfl) rfl rfl rfl ?_
      rw [hX]
      iterate 1 (refine tr_mv rfl (fun _ => rfl) ?_)
      refine tr_cmp2 rfl (m32_of (by omega)) (m32_of (by omega)) (fun c3 => ?_) (fun c3 => ?_)
      · have c4 : xE en j = -1 := c3
        iterate 1 (refine tr_mv rfl (fun _ => rfl) ?_)
        exact t47 0 (by rw [if_neg (fun g => g.1 c4)])
      · have c4 : ¬ xE en j = -1 := c3
        repeat (first | refine tr_mgr rfl (by decide) rfl ?_ | refine tr_mgi rfl (by decide) (by decide) rfl ?_ | refine tr_mv rfl (fun _ => rfl) ?_)
        refine tr_man (j := j) rfl (by omega) (by omega) rfl (fun _ => rfl) rfl rfl rfl ?_
        rw [hX]
        refine tr_vc (q := 480) rfl isO_480 rfl rfl rfl (s_308 hE hR hok cE2 (x := xE en j) (by omega) ?_)
        iterate 1 (refine tr_mv rfl (fun _ => rfl) ?_)
        refine tr_cmp2 rfl (m32_of (show in32 (wlk en (en.length + 1) (xE en j)) by omega)) (m32_of (by omega)) (fun c5 => ?_) (fun c5 => ?_)
        · iterate 1 (refine tr_mv rfl (fun _ => rfl) ?_)
          exact t47 0 (by rw [if_neg (fun g => c5 g.2)])
        · iterate 2 (refine tr_mv rfl (fun _ => rfl) ?_)
          exact t47 1 (by rw [if_pos ⟨c4, Decidable.of_not_not c5⟩])
  iterate 4 (refine tr_mv rfl (fun _ => rfl) ?_)
  exact outer en.length 0 none (by omega)
end MLEAD
