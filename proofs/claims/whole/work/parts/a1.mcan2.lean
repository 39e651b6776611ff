/-! The model: can a rule be told? (2) -/
theorem rplace_iff {xs : List Int} {x : Int} : rplace xs x = -1 ↔ x ∉ xs := by
  rcases rplace_or xs x with ⟨h1, h2⟩ | ⟨h1, h2, h3⟩
  · exact ⟨fun _ => h2, fun _ => h1⟩
  · exact ⟨fun g => absurd g (by omega), fun g => absurd h3 g⟩
theorem canSort_iff {its sg : List Int} {it an : Int} (h : 0 < an) : canSort its sg it an ↔ 1 < sgIn an ∧ (∀ j : Nat, (j : Int) < sgIn an → okA its an it j) ∧ ¬ oneOf sg it := by
  have h3 := sgIn_le3 an
  constructor
  · rintro ⟨h1, h2, h4, h5, h6⟩
    refine ⟨h5, fun j hj => ?_, h6⟩
    rcases (show j = 0 ∨ j = 1 ∨ j = 2 by omega) with rfl | rfl | rfl
    · exact h1 hj
    · exact h2 hj
    · exact h4 hj
  · rintro ⟨h1, h2, h4⟩
    exact ⟨fun g => h2 0 g, fun g => h2 1 g, fun g => h2 2 g, h1, h4⟩
/-- a tailoring's lists alone -/
def tqM (T : Nat) (σ : Sg) (D : TD) : Prop := lsM T σ D.1 D.2.1 ∧ svM T σ D.2.2.1 D.2.2.2
section MCAN2
variable {Ls N k pc n n' nn b c t a q T kd w : Nat} {L L0 : mLs} {st r as : List mV} {h h' : mH} {σ σ' σ'' : Sg} {post : tP} {x y z x' y' i i' s v m how an it : Int} {xs ys its lvs sv sg hs is ans : List Int} {e : mE} {C : Nat → Nat → Prop} {D : TD}
theorem s_232Q (hT : T < 4) (hx : in32 x) (hM : tqM T σ D) (hD : okTD D) (K : post (.inl (some (mI (rplace D.1 x)))) σ) : Tr Ls N 232 0 [some (mP (some 480)), some (mI (T : Int)), some (mI x), none, none] [] σ post :=
  s_232 hT hx hM.1.1 hD.2.1 hM.1.2.1 hD.i32 hD.2.2.2.1 K
theorem s_240 (hT : T < 4) (hM : tqM T σ D) (hD : okTD D) (ha : 0 < an ∧ an < 1010101) (hi : in32 it) (K : post (.inl (some (mI (b2 (canSort D.1 D.2.2.2 it an))))) σ) : Tr Ls N 240 0 [some (mP (some 480)), some (mI (T : Int)), some (mI an), some (mI it), none, none, none] [] σ post := by
  have h3 := sgIn_le3 an
  have hs1 := sgIn_cases ha.1
  have hlen := hD.2.2.2.2.2.1.1
  have hl12 := hD.2.2.1
  have hcd := hD.2.2.2.2.2.1.2
  have hpr := hD.2.2.2.2.2.2.2.2.2.2.2.2.2
  obtain ⟨-, hsv⟩ := id hM
  -- the second loop
  have L2 : ∀ (d j : Nat) (v : Int) (v6 : Option mV), j + d = D.2.2.1.length → (v = 0 ∨ v = 1) → (v = 1 ↔ (1 < sgIn an ∧ ∀ i : Nat, (i : Int) < sgIn an → okA D.1 an it i) ∧ ∀ i : Nat, i < j → D.2.2.1.getD i 0 = it ∨ ¬ hasSg (D.2.2.2.getD i 0) it) → Tr Ls N 240 85 [some (mP (some 480)), some (mI (T : Int)), some (mI an), some (mI it), some (mI v), some (mI (j : Int)), v6] [] σ post := by
    intro d
    induction d with
    | zero =>
      intro j v v6 e hv hw
      repeat (first | refine tr_mgr rfl (by decide) rfl ?_ | refine tr_mgi rfl (by decide) (by decide) rfl ?_ | refine tr_mv rfl (fun _ => rfl) ?_)
      refine tr_man (j := T) rfl (by omega) (by omega) rfl (fun _ => rfl) rfl rfl rfl ?_
      rw [hsv.1]
      refine tr_cmp2 rfl (m32_of (by omega)) (m32_of (by omega)) (fun _ => ?_) (fun c9 => absurd (show (D.2.2.1.length : Int) ≤ (j : Int) by omega) c9)
      iterate 1 (refine tr_mv rfl (fun _ => rfl) ?_)
      have hcs : canSort D.1 D.2.2.2 it an ↔ v = 1 := by
        rw [canSort_iff ha.1, hw]
        constructor
        · rintro ⟨g1, g2, g3⟩
          refine ⟨⟨g1, g2⟩, fun i hi => Or.inr (fun g => g3 (oneOf_iff.mpr ⟨_, getD_mem (by omega), g⟩))⟩
        · rintro ⟨⟨g1, g2⟩, g3⟩
          refine ⟨g1, g2, fun g => ?_⟩
          obtain ⟨s, hs, hss⟩ := oneOf_iff.mp g
          obtain ⟨i, hi, rfl⟩ := List.getElem_of_mem hs
          have hi2 : i < D.2.2.1.length := by omega
          have e1 : D.2.2.2.getD i 0 = D.2.2.2[i] := by rw [List.getD_eq_getElem?_getD, List.getElem?_eq_getElem hi]; rfl
          have e2 : D.2.2.1.getD i 0 = D.2.2.1[i] := by rw [List.getD_eq_getElem?_getD, List.getElem?_eq_getElem hi2]; rfl
          rcases g3 i (by omega) with g4 | g4
          · exact hpr i _ _ (List.getElem?_eq_getElem hi2) (List.getElem?_eq_getElem hi) (by rw [← e2, g4]; exact hss)
          · rw [e1] at g4
            exact g4 hss
      rw [b2_congr hcs] at K
      rcases hv with rfl | rfl
      · exact tr_rb0 rfl (by decide) K
      · exact tr_rb1 rfl rfl K
    | succ d ih =>
      intro j v v6 e hv hw
      have hj : j < D.2.2.1.length := by omega
      have q1 := hsv.2.1.get hj
      have q2 := hsv.2.2.get (show j < D.2.2.2.length by omega)
      have w2 := hcd _ (getD_mem (show j < D.2.2.2.length by omega))
      have w1 := hD.s32 _ (getD_mem hj)
      repeat (first | refine tr_mgr rfl (by decide) rfl ?_ | refine tr_mgi rfl (by decide) (by decide) rfl ?_ | refine tr_mv rfl (fun _ => rfl) ?_)
      refine tr_man (j := T) rfl (by omega) (by omega) rfl (fun _ => rfl) rfl rfl rfl ?_
      rw [hsv.1]
      refine tr_cmp2 rfl (m32_of (by omega)) (m32_of (by omega)) (fun c9 => absurd (show (D.2.2.1.length : Int) ≤ (j : Int) from c9) (by omega)) (fun _ => ?_)
      have fin : ∀ w : Int, (w = 0 ∨ w = 1) → (w = 1 ↔ (1 < sgIn an ∧ ∀ i : Nat, (i : Int) < sgIn an → okA D.1 an it i) ∧ ∀ i : Nat, i < j + 1 → D.2.2.1.getD i 0 = it ∨ ¬ hasSg (D.2.2.2.getD i 0) it) → Tr Ls N 240 141 [some (mP (some 480)), some (mI (T : Int)), some (mI an), some (mI it), some (mI v), some (mI (j : Int)), v6] [mI w] σ post := by
        intro w g1 g2
        iterate 3 (refine tr_mv rfl (fun _ => rfl) ?_)
        show Tr Ls N 240 85 [some (mP (some 480)), some (mI (T : Int)), some (mI an), some (mI it), some (mI w), some (mI ((j : Int) + 1)), v6] [] σ post
        rw [show (j : Int) + 1 = ((j + 1 : Nat) : Int) by omega]
        exact ih (j + 1) w v6 (by omega) g1 g2
      rcases hv with rfl | rfl
      · iterate 3 (refine tr_mv rfl (fun _ => rfl) ?_)
        exact fin 0 (Or.inl rfl) ⟨fun g => absurd g (by decide), fun g => absurd (hw.mpr ⟨g.1, fun i hi => g.2 i (by omega)⟩) (by decide)⟩
      · obtain ⟨g1, g2⟩ := hw.mp rfl
        have yes : (D.2.2.1.getD j 0 = it ∨ ¬ hasSg (D.2.2.2.getD j 0) it) → ((1 : Int) = 1 ↔ (1 < sgIn an ∧ ∀ i : Nat, (i : Int) < sgIn an → okA D.1 an it i) ∧ ∀ i : Nat, i < j + 1 → D.2.2.1.getD i 0 = it ∨ ¬ hasSg (D.2.2.2.getD i 0) it) := fun g => ⟨fun _ => ⟨g1, fun i i1 => by
          by_cases gg : i = j
          · rw [gg]; exact g
          · exact g2 i (by omega)⟩, fun _ => rfl⟩
        repeat (first | refine tr_mgr rfl (by decide) rfl ?_ | refine tr_mgi rfl (by decide) (by decide) rfl ?_ | refine tr_mv rfl (fun _ => rfl) ?_)
        refine tr_man (j := 12 * T + j) rfl (by omega) (by omega) rfl (fun _ => rfl) rfl rfl rfl ?_
        rw [q1]
        iterate 1 (refine tr_mv rfl (fun _ => rfl) ?_)
        refine tr_cmp2 rfl (m32_of (by omega)) (m32_of (by omega)) (fun c3 => ?_) (fun c3 => ?_)
        · iterate 2 (refine tr_mv rfl (fun _ => rfl) ?_)
          exact fin 1 (Or.inr rfl) (yes (Or.inl c3))
        · have c4 : ¬ D.2.2.1.getD j 0 = it := c3
          repeat (first | refine tr_mgr rfl (by decide) rfl ?_ | refine tr_mgi rfl (by decide) (by decide) rfl ?_ | refine tr_mv rfl (fun _ => rfl) ?_)
          refine tr_man (j := 12 * T + j) rfl (by omega) (by omega) rfl (fun _ => rfl) rfl rfl rfl ?_
          rw [q2]
          iterate 1 (refine tr_mv rfl (fun _ => rfl) ?_)
          refine tr_stat rfl rfl rfl (s_238 (by omega) hi ?_)
          first | refine tr_ib rfl (fun c5 => ?_) (fun c5 => ?_) | refine tr_ibn rfl (fun c5 => ?_) (fun c5 => ?_)
          · iterate 1 (refine tr_mv rfl (fun _ => rfl) ?_)
            exact fin 0 (Or.inl rfl) ⟨fun g => absurd g (by decide), fun g => by
              rcases g.2 j (by omega) with h | h
              · exact absurd h c4
              · exact absurd c5 h⟩
          · iterate 2 (refine tr_mv rfl (fun _ => rfl) ?_)
            exact fin 1 (Or.inr rfl) (yes (Or.inr c5))
  -- the first loop
  have L1 : ∀ (d j : Nat) (v : Int) (v6 : Option mV), j + d = 3 → (j : Int) ≤ sgIn an → (v = 0 ∨ v = 1) → (v = 1 ↔ 1 < sgIn an ∧ ∀ i : Nat, i < j → okA D.1 an it i) → mok 6 [none, none, none, none, none, some (mI 0), v6] = true → Tr Ls N 240 18 [some (mP (some 480)), some (mI (T : Int)), some (mI an), some (mI it), some (mI v), some (mI (j : Int)), v6] [] σ post := by
    intro d
    have exit0 : ∀ (j : Nat) (v : Int) (v6 : Option mV), (j : Int) = sgIn an → (v = 0 ∨ v = 1) → (v = 1 ↔ 1 < sgIn an ∧ ∀ i : Nat, i < j → okA D.1 an it i) → Tr Ls N 240 82 [some (mP (some 480)), some (mI (T : Int)), some (mI an), some (mI it), some (mI v), some (mI (j : Int)), v6] [] σ post := by
      intro j v v6 e hv hw
      iterate 2 (refine tr_mv rfl (fun _ => rfl) ?_)
      exact L2 D.2.2.1.length 0 v v6 (by omega) hv (by rw [hw]; exact ⟨fun ⟨g1, g2⟩ => ⟨⟨g1, fun i hi => g2 i (by omega)⟩, fun i hi => absurd hi (Nat.not_lt_zero _)⟩, fun ⟨⟨g1, g2⟩, _⟩ => ⟨g1, fun i hi => g2 i (by omega)⟩⟩)
    induction d with
    | zero =>
      intro j v v6 e hj hv hw _
      iterate 2 (refine tr_mv rfl (fun _ => rfl) ?_)
      refine tr_stat rfl rfl rfl (s_230 (by omega) ha.1 ?_)
      refine tr_cmp2 rfl (m32_of (by omega)) (m32_of (by omega)) (fun _ => ?_) (fun c9 => absurd (show sgIn an ≤ (j : Int) by omega) c9)
      exact exit0 j v v6 (by omega) hv hw
    | succ d ih =>
      intro j v v6 e hj hv hw hmk
      iterate 2 (refine tr_mv rfl (fun _ => rfl) ?_)
      refine tr_stat rfl rfl rfl (s_230 (by omega) ha.1 ?_)
      refine tr_cmp2 rfl (m32_of (by omega)) (m32_of (by omega)) (fun c1 => ?_) (fun c1 => ?_)
      · have c2 : sgIn an ≤ (j : Int) := c1
        exact exit0 j v v6 (by omega) hv hw
      · have c2 : ¬ sgIn an ≤ (j : Int) := c1
        have hb := sgAt_in (w := an) (by omega) (j : Int)
        have fin : ∀ w : Int, (w = 0 ∨ w = 1) → (w = 1 ↔ 1 < sgIn an ∧ ∀ i : Nat, i < j + 1 → okA D.1 an it i) → Tr Ls N 240 74 [some (mP (some 480)), some (mI (T : Int)), some (mI an), some (mI it), some (mI v), some (mI (j : Int)), some (mI (sgAt an (j : Int)))] [mI w] σ post := by
          intro w g1 g2
          iterate 3 (refine tr_mv rfl (fun _ => rfl) ?_)
          show Tr Ls N 240 18 [some (mP (some 480)), some (mI (T : Int)), some (mI an), some (mI it), some (mI w), some (mI ((j : Int) + 1)), some (mI (sgAt an (j : Int)))] [] σ post
          rw [show (j : Int) + 1 = ((j + 1 : Nat) : Int) by omega]
          exact ih (j + 1) w _ (by omega) (by omega) g1 g2 rfl
        iterate 2 (refine tr_mv rfl (fun _ => rfl) ?_)
        refine tr_stat rfl rfl rfl (s_231 (by omega) (by omega) ?_)
        rcases hv with rfl | rfl
        · iterate 4 (refine tr_mv rfl (fun _ => rfl) ?_)
          exact fin 0 (Or.inl rfl) ⟨fun g => absurd g (by decide), fun g => absurd (hw.mpr ⟨g.1, fun i hi => g.2 i (by omega)⟩) (by decide)⟩
        · obtain ⟨g1, g2⟩ := hw.mp rfl
          have no : ¬ okA D.1 an it j → ((0 : Int) = 1 ↔ 1 < sgIn an ∧ ∀ i : Nat, i < j + 1 → okA D.1 an it i) := fun g => ⟨fun g => absurd g (by decide), fun gg => absurd (gg.2 j (by omega)) g⟩
          iterate 4 (refine tr_mv rfl (fun _ => rfl) ?_)
          refine tr_stat rfl rfl rfl (s_213 (by omega) ?_)
          first | refine tr_ib rfl (fun c3 => ?_) (fun c3 => ?_) | refine tr_ibn rfl (fun c3 => ?_) (fun c3 => ?_)
          · iterate 1 (refine tr_mv rfl (fun _ => rfl) ?_)
            exact fin 0 (Or.inl rfl) (no (fun g => c3 g.1))
          · iterate 5 (refine tr_mv rfl (fun _ => rfl) ?_)
            refine tr_vc (q := 480) rfl isO_480 rfl rfl rfl (s_232Q hT (by omega) hM hD ?_)
            iterate 1 (refine tr_mv rfl (fun _ => rfl) ?_)
            have hrb := rplace_or D.1 (sgAt an (j : Int) + 1)
            have hd48 := hD.2.1
            refine tr_cmp2 rfl (m32_of (by omega)) (m32_of (by omega)) (fun c4 => ?_) (fun c4 => ?_)
            · iterate 1 (refine tr_mv rfl (fun _ => rfl) ?_)
              exact fin 0 (Or.inl rfl) (no (fun g => (rplace_iff.mp c4) g.2.1))
            · have c5 : ¬ rplace D.1 (sgAt an (j : Int) + 1) = -1 := c4
              iterate 4 (refine tr_mv rfl (fun _ => rfl) ?_)
              refine tr_cmp2 rfl (m32_of (by omega)) (m32_of (by omega)) (fun c6 => ?_) (fun c6 => ?_)
              · iterate 1 (refine tr_mv rfl (fun _ => rfl) ?_)
                exact fin 0 (Or.inl rfl) (no (fun g => g.2.2 c6))
              · iterate 2 (refine tr_mv rfl (fun _ => rfl) ?_)
                refine fin 1 (Or.inr rfl) ⟨fun _ => ⟨g1, fun i hi => ?_⟩, fun _ => rfl⟩
                by_cases gg : i = j
                · rw [gg]
                  exact ⟨c3, Decidable.byContradiction (fun g => c5 (rplace_iff.mpr g)), c6⟩
                · exact g2 i (by omega)
  iterate 1 (refine tr_mv rfl (fun _ => rfl) ?_)
  refine tr_stat rfl rfl rfl (s_230 (by omega) ha.1 ?_)
  iterate 1 (refine tr_mv rfl (fun _ => rfl) ?_)
  refine tr_cmp2 rfl (m32_of (by omega)) (m32_of (by omega)) (fun c1 => ?_) (fun c1 => ?_)
  · have c2 : sgIn an ≤ 1 := c1
    iterate 4 (refine tr_mv rfl (fun _ => rfl) ?_)
    exact L1 3 0 0 none rfl (by omega) (Or.inl rfl) ⟨fun g => absurd g (by decide), fun g => absurd g.1 (by omega)⟩ rfl
  · have c2 : ¬ sgIn an ≤ 1 := c1
    iterate 5 (refine tr_mv rfl (fun _ => rfl) ?_)
    exact L1 3 0 1 none rfl (by omega) (Or.inr rfl) ⟨fun _ => ⟨by omega, fun i hi => absurd hi (Nat.not_lt_zero _)⟩, fun _ => rfl⟩ rfl
/-- a code as the model has it -/
def cdM (x : Int) : Int := if x = -1 then 0 else x
abbrev okCo1 (x : Int) : Prop := x = -1 ∨ okCd x
theorem s_241 (hT : T < 4) (hM : tqM T σ D) (hD : okTD D) (hn : σ.2 502 T = (n : Int)) (hn2 : n ≤ 12) (ha : okCo1 an) (hi : okCo1 it) (hh : 0 ≤ how ∧ how ≤ 7) (K : post (.inl (some (mI (b2 (canTellP D.1 D.2.2.2 n how an it))))) σ) : Tr Ls N 241 0 [some (mP (some 480)), some (mI (T : Int)), some (mI (cdM an)), some (mI (cdM it)), some (mI how), none] [] σ post := by
  have hmi : 0 ≤ cdM it ∧ cdM it < 1010101 := by unfold cdM; split <;> omega
  have hma : 0 ≤ cdM an ∧ cdM an < 1010101 := by unfold cdM; split <;> omega
  have hcb : canBe (cdM it) ↔ canBe it := by
    unfold cdM
    split
    · rename_i g
      rw [g]
      exact ⟨fun g => absurd g.1 (by decide), fun g => absurd g.1 (by decide)⟩
    · exact Iff.rfl
  have no : ∀ v5 : Option mV, ¬ canTellQ D.1 D.2.2.2 n how an it → mok 5 [none, none, none, none, some (mI 0), v5] = true → Tr Ls N 241 31 [some (mP (some 480)), some (mI (T : Int)), some (mI (cdM an)), some (mI (cdM it)), some (mI how), v5] [] σ post := by
    intro v5 g _
    iterate 5 (refine tr_mv rfl (fun _ => rfl) ?_)
    exact tr_rb0 rfl (fun g2 => g (canTell_iff.mp g2)) K
  iterate 1 (refine tr_mv rfl (fun _ => rfl) ?_)
  refine tr_if2 rfl (m32_of (by omega)) (fun c1 => ?_) (fun c1 => ?_)
  · have c2 : cdM an ≤ 0 := c1
    refine no none (fun g => ?_) rfl
    have := g.2.1
    unfold cdM at c2
    rw [if_neg this] at c2
    omega
  · have c2 : ¬ cdM an ≤ 0 := c1
    have ea : cdM an = an := by
      unfold cdM at c2 ⊢
      split at c2
      · omega
      · rename_i g; rw [if_neg g]
    have hap : 0 < an ∧ an < 1010101 := by omega
    iterate 1 (refine tr_mv rfl (fun _ => rfl) ?_)
    refine tr_stat rfl rfl rfl (s_239 hmi ?_)
    first | refine tr_ib rfl (fun c3 => ?_) (fun c3 => ?_) | refine tr_ibn rfl (fun c3 => ?_) (fun c3 => ?_)
    · exact no none (fun g => c3 (hcb.mpr g.2.2.2.1)) rfl
    · have c4 := hcb.mp c3
      have hip : 0 < it := (sgIn_in it).2.2.mp c4.1
      have ei : cdM it = it := by unfold cdM; rw [if_neg (by omega)]
      iterate 2 (refine tr_mv rfl (fun _ => rfl) ?_)
      refine tr_cmp2 rfl (m32_of (by omega)) (m32_of (by omega)) (fun c5 => ?_) (fun c5 => ?_)
      · have c6 : cdM an = cdM it := c5
        exact no none (fun g => g.2.2.1 (by omega)) rfl
      · have c6 : ¬ cdM an = cdM it := c5
        repeat (first | refine tr_mgr rfl (by decide) rfl ?_ | refine tr_mgi rfl (by decide) (by decide) rfl ?_ | refine tr_mv rfl (fun _ => rfl) ?_)
        refine tr_man (j := T) rfl (by omega) (by omega) rfl (fun _ => rfl) rfl rfl rfl ?_
        rw [hn]
        iterate 1 (refine tr_mv rfl (fun _ => rfl) ?_)
        refine tr_cmp2 rfl (m32_of (by omega)) (m32_of (by omega)) (fun c7 => ?_) (fun c7 => ?_)
        · have c8 : 12 ≤ (n : Int) := c7
          exact no none (fun g => by have := g.1; omega) rfl
        · have c8 : ¬ 12 ≤ (n : Int) := c7
          iterate 7 (refine tr_mv rfl (fun _ => rfl) ?_)
          refine tr_cmp2 rfl (m32_of (by omega)) (m32_of (by omega)) (fun c9 => ?_) (fun c9 => ?_)
          · have c10 : ¬ how = 7 := c9
            iterate 3 (refine tr_mv rfl (fun _ => rfl) ?_)
            rw [ea]
            refine tr_vc (q := 480) rfl isO_480 rfl rfl rfl (s_232Q hT (by omega) hM hD ?_)
            iterate 1 (refine tr_mv rfl (fun _ => rfl) ?_)
            have hrb := rplace_or D.1 an
            have hd48 := hD.2.1
            refine tr_cmp2 rfl (m32_of (by omega)) (m32_of (by omega)) (fun c11 => ?_) (fun c11 => ?_)
            · iterate 1 (refine tr_mv rfl (fun _ => rfl) ?_)
              exact tr_rb0 rfl (fun g => (rplace_iff.mp c11) ((canTell_iff.mp g).2.2.2.2.2 c10)) K
            · have c12 : ¬ rplace D.1 an = -1 := c11
              iterate 2 (refine tr_mv rfl (fun _ => rfl) ?_)
              exact tr_rb1 rfl (canTell_iff.mpr ⟨by omega, by omega, by omega, c4, fun g => absurd g c10, fun _ => Decidable.byContradiction (fun g => c12 (rplace_iff.mpr g))⟩) K
          · have c10 : how = 7 := Decidable.of_not_not c9
            iterate 4 (refine tr_mv rfl (fun _ => rfl) ?_)
            rw [ea, ei]
            refine tr_vc (q := 480) rfl isO_480 rfl rfl rfl (s_240 hT hM hD hap (by omega) ?_)
            first | refine tr_ib rfl (fun c11 => ?_) (fun c11 => ?_) | refine tr_ibn rfl (fun c11 => ?_) (fun c11 => ?_)
            · iterate 1 (refine tr_mv rfl (fun _ => rfl) ?_)
              exact tr_rb0 rfl (fun g => c11 ((canTell_iff.mp g).2.2.2.2.1 c10)) K
            · iterate 3 (refine tr_mv rfl (fun _ => rfl) ?_)
              exact tr_rb1 rfl (canTell_iff.mpr ⟨by omega, by omega, by omega, c4, fun _ => c11, fun g => absurd c10 g⟩) K
end MCAN2
