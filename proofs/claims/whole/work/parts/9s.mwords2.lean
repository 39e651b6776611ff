/-! Words told: the model's. -/
section MWORDS2
variable {Ls N k pc n n' nn b c t a q kd w d p X T : Nat} {L0 : mLs} {st r as : List mV} {h h' : mH} {σ σ' σ'' : Sg} {post : tP} {x y z x' y' i i' s v m u lv : Int} {xs ys ss L M A B ws rs : List Int} {e : mE} {C : Nat → Nat → Prop} {R : Nat → Prop} {tx : List (List Int)} {en : List EnT} {D : TD} {o : Nat → Int} {rd : Nat → List Int} {kt : Int → List Int}
theorem setF_cong {q p j : Nat} {x : Int} {s1 s2 : Sg} (h : ∀ j, s1.2 q j = s2.2 q j) : (setF s1 q p x).2 q j = (setF s2 q p x).2 q j := by
  rw [setF_get, setF_get, h]
abbrev cCo2 (q i : Nat) : Prop := (526 ≤ q ∧ q ≤ 529) ∨ (q = 480 ∧ (i = 0 ∨ i = 60))
theorem s_312 (hT : okTx tx) (cT : mTx σ tx) (hC : okCo tx.length ws rs rd) (cC : mCo σ ws rs rd) (hx : in32 x)
    (K1 : ¬ (0 ≤ x ∧ x < (tx.length : Int)) → post (.inl (some (mI 0))) (setF σ 480 0 1))
    (K2 : (0 ≤ x ∧ x < (tx.length : Int)) → ws.length = 30 → post (.inl (some (mI 0))) (setF σ 480 0 2))
    (K3 : ∀ σ', (0 ≤ x ∧ x < (tx.length : Int)) → ws.length < 30 → mCo σ' (ws ++ [x]) (rs ++ [-1]) rd → σ'.2 480 0 = 0 → only cCo2 σ σ' → post (.inl (some (mI (ws.length : Int)))) σ') :
    Tr Ls N 312 0 [some (mP (some 480)), some (mI x)] [] σ post := by
  have hT30 := hT.1
  have hw30 := hC.1
  have hrl := hC.2.1
  have bad : ∀ (c : Int), c ≠ 0 → in32 c → post (.inl (some (mI 0))) (setF σ 480 0 c) → Tr Ls N 312 27 [some (mP (some 480)), some (mI x)] [mI c, mP (some 480)] σ post := by
    intro c h1 h2 h3
    refine tr_vc (q := 480) rfl isO_480 rfl rfl rfl (s_210 h2 ?_)
    rw [b2, if_neg h1]
    repeat (refine tr_mv rfl (fun _ => rfl) ?_)
    exact tr_ri rfl rfl h3
  iterate 3 (refine tr_mv rfl (fun _ => rfl) ?_)
  refine tr_vc (q := 480) rfl isO_480 rfl rfl rfl (s_218 hx cT.1 (by omega) ?_)
  first | refine tr_ib rfl (fun g1 => ?_) (fun g1 => ?_) | refine tr_ibn rfl (fun g1 => ?_) (fun g1 => ?_)
  · repeat (first | refine tr_mgr rfl (by decide) rfl ?_ | refine tr_mgi rfl (by decide) (by decide) rfl ?_ | refine tr_mv rfl (fun _ => rfl) ?_)
    rw [cC.1]
    refine tr_cmp2 rfl (m32_of (by omega)) (m32_of (by omega)) (fun g2 => ?_) (fun g2 => ?_)
    · have g3 : ¬ (ws.length : Int) = 30 := g2
      iterate 1 (refine tr_mv rfl (fun _ => rfl) ?_)
      refine tr_vc (q := 480) rfl isO_480 rfl rfl rfl (s_210 (by decide) ?_)
      rw [b2, if_pos rfl]
      repeat (first | refine tr_mgr rfl (by decide) rfl ?_ | refine tr_mgi rfl (by decide) (by decide) rfl ?_ | refine tr_mv rfl (fun _ => rfl) ?_)
      rw [setF_ne _ _ (by omega), cC.1]
      refine tr_msn (j := 0 + ws.length) rfl (by omega) (by omega) rfl (fun _ => rfl) rfl rfl rfl ?_
      repeat (first | refine tr_mgr rfl (by decide) rfl ?_ | refine tr_mgi rfl (by decide) (by decide) rfl ?_ | refine tr_mv rfl (fun _ => rfl) ?_)
      rw [setF_ne _ _ (by omega), setF_ne _ _ (by omega), cC.1]
      refine tr_msn (j := 0 + rs.length) rfl (by omega) (by omega) rfl (fun _ => rfl) rfl rfl rfl ?_
      repeat (first | refine tr_mgr rfl (by decide) rfl ?_ | refine tr_mgi rfl (by decide) (by decide) rfl ?_ | refine tr_mv rfl (fun _ => rfl) ?_)
      rw [setF_ne _ _ (by omega), setF_ne _ _ (by omega), setF_ne _ _ (by omega), cC.1]
      refine tr_mpi rfl (Or.inl rfl) (by decide) rfl ?_
      obtain ⟨S, hS⟩ : ∃ S, S = setF (setF (setF (setF σ 480 0 0) 526 (0 + ws.length) x) 527 (0 + rs.length) (-1)) 480 60 ((ws.length : Int) + 1) := ⟨_, rfl⟩
      have f60 : S.2 480 60 = (ws.length : Int) + 1 := by rw [hS, setF_same]
      have f0 : S.2 480 0 = 0 := by rw [hS, setF_ne _ _ (by omega), setF_ne _ _ (by omega), setF_ne _ _ (by omega), setF_same]
      have fr : S.1 = σ.1 := by rw [hS]; rfl
      have fo : ∀ q j : Nat, ¬ (q = 526 ∨ q = 527) → ¬ (q = 480 ∧ (j = 0 ∨ j = 60)) → S.2 q j = σ.2 q j := fun q j h1 h2 => by
        rw [hS, setF_ne _ _ (by omega), setF_ne _ _ (by omega), setF_ne _ _ (by omega), setF_ne _ _ (by omega)]
      have f526 : ∀ j, S.2 526 j = (setF σ 526 (0 + ws.length) x).2 526 j := fun j => by
        rw [hS, setF_ne _ _ (by omega), setF_ne _ _ (by omega)]
        exact setF_cong (fun j => setF_ne _ _ (by omega))
      have f527 : ∀ j, S.2 527 j = (setF σ 527 (0 + rs.length) (-1)).2 527 j := fun j => by
        rw [hS, setF_ne _ _ (by omega)]
        exact setF_cong (fun j => (setF_ne _ _ (by omega)).trans (setF_ne _ _ (by omega)))
      rw [← hS]
      repeat (first | refine tr_mgr rfl (by decide) rfl ?_ | refine tr_mgi rfl (by decide) (by decide) rfl ?_ | refine tr_mv rfl (fun _ => rfl) ?_)
      rw [f60]
      refine tr_ri rfl (by omega) (K3 S g1 (by omega) ⟨by rw [f60]; simp, (cC.2.1.push (v := x)).keep (fun j _ _ => f526 j), (cC.2.2.1.push (v := -1)).keep (fun j _ _ => f527 j), fun i hi => ⟨(fo _ _ (by omega) (by omega)).trans (cC.2.2.2 i hi).1, (cC.2.2.2 i hi).2.keep (fun j _ _ => fo _ _ (by omega) (by omega))⟩⟩ f0 ⟨fr, fun q j hq => fo _ _ (by omega) (by omega)⟩)
    · have g3 : (ws.length : Int) = 30 := Decidable.of_not_not g2
      iterate 2 (refine tr_mv rfl (fun _ => rfl) ?_)
      exact bad 2 (by decide) (by decide) (K2 g1 (by omega))
  · iterate 2 (refine tr_mv rfl (fun _ => rfl) ?_)
    exact bad 1 (by decide) (by decide) (K1 g1)
def rdU (rd : Nat → List Int) (a : Nat) (l : List Int) : Nat → List Int := fun i => if i = a then l else rd i
theorem s_314 (hT : okTx tx) (cT : mTx σ tx) (hC : okCo tx.length ws rs rd) (cC : mCo σ ws rs rd) (hx : in32 x) (hy : in32 y)
    (K1 : ¬ txtIn tx.length x y → post (.inl (some (mI 0))) (setF σ 480 0 1))
    (K2 : ∀ a : Nat, x = (a : Int) → txtIn tx.length x y → (y ∈ rd a ∨ (rd a).length = 3) → post (.inl (some (mI 0))) (setF σ 480 0 2))
    (K3 : ∀ (a : Nat) (σ' : Sg), x = (a : Int) → a < tx.length → txtIn tx.length x y → y ∉ rd a → (rd a).length < 3 → mCo σ' ws rs (rdU rd a (rd a ++ [y])) → σ'.2 480 0 = 0 → only cCo2 σ σ' → post (.inl (some (mI ((rd a).length + 1 : Int)))) σ') :
    Tr Ls N 314 0 [some (mP (some 480)), some (mI x), some (mI y), none] [] σ post := by
  have hT30 := hT.1
  have bad : ∀ (v3 : Option mV) (c : Int), c ≠ 0 → in32 c → post (.inl (some (mI 0))) (setF σ 480 0 c) → Tr Ls N 314 55 [some (mP (some 480)), some (mI x), some (mI y), v3] [mI c, mP (some 480)] σ post := by
    intro v3 c h1 h2 h3
    refine tr_vc (q := 480) rfl isO_480 rfl rfl rfl (s_210 h2 ?_)
    rw [b2, if_neg h1]
    repeat (refine tr_mv rfl (fun _ => rfl) ?_)
    exact tr_ri rfl rfl h3
  iterate 2 (refine tr_mv rfl (fun _ => rfl) ?_)
  refine tr_vc (q := 480) rfl isO_480 rfl rfl rfl (s_218 hx cT.1 (by omega) ?_)
  first | refine tr_ib rfl (fun g1 => ?_) (fun g1 => ?_) | refine tr_ibn rfl (fun g1 => ?_) (fun g1 => ?_)
  · repeat (refine tr_mv rfl (fun _ => rfl) ?_)
    exact bad _ 1 (by decide) (by decide) (K1 (fun g => g1 g.1))
  · iterate 2 (refine tr_mv rfl (fun _ => rfl) ?_)
    refine tr_vc (q := 480) rfl isO_480 rfl rfl rfl (s_218 hy cT.1 (by omega) ?_)
    first | refine tr_ib rfl (fun g2 => ?_) (fun g2 => ?_) | refine tr_ibn rfl (fun g2 => ?_) (fun g2 => ?_)
    · repeat (refine tr_mv rfl (fun _ => rfl) ?_)
      exact bad _ 1 (by decide) (by decide) (K1 (fun g => g2 g.2))
    · obtain ⟨a, rfl⟩ : ∃ a : Nat, x = (a : Int) := ⟨x.toNat, by omega⟩
      have hB : txtIn tx.length (a : Int) y := ⟨g1, g2⟩
      have ha : a < 30 := by omega
      have hrd := hC.2.2.2.2 a ha
      have hcr := cC.2.2.2 a ha
      iterate 9 (refine tr_mv rfl (fun _ => rfl) ?_)
      refine tr_vc (q := 480) rfl isO_480 rfl rfl rfl (s_313 hC hT30 cC ha hy ?_)
      first | refine tr_ib rfl (fun g3 => ?_) (fun g3 => ?_) | refine tr_ibn rfl (fun g3 => ?_) (fun g3 => ?_)
      · repeat (refine tr_mv rfl (fun _ => rfl) ?_)
        exact bad _ 2 (by decide) (by decide) (K2 a rfl hB (Or.inl g3))
      · repeat (first | refine tr_mgr rfl (by decide) rfl ?_ | refine tr_mgi rfl (by decide) (by decide) rfl ?_ | refine tr_mv rfl (fun _ => rfl) ?_)
        refine tr_man (j := a) rfl (by omega) (by omega) rfl (fun _ => rfl) rfl rfl rfl ?_
        rw [hcr.1]
        iterate 1 (refine tr_mv rfl (fun _ => rfl) ?_)
        refine tr_cmp2 rfl (m32_of (by omega)) (m32_of (by omega)) (fun g4 => ?_) (fun g4 => ?_)
        · have g5 : ¬ ((rd a).length : Int) = 3 := g4
          iterate 1 (refine tr_mv rfl (fun _ => rfl) ?_)
          refine tr_vc (q := 480) rfl isO_480 rfl rfl rfl (s_210 (by decide) ?_)
          rw [b2, if_pos rfl]
          repeat (first | refine tr_mgr rfl (by decide) rfl ?_ | refine tr_mgi rfl (by decide) (by decide) rfl ?_ | refine tr_mv rfl (fun _ => rfl) ?_)
          refine tr_man (j := a) rfl (by omega) (by omega) rfl (fun _ => rfl) rfl rfl rfl ?_
          rw [setF_ne _ _ (by omega), hcr.1]
          iterate 2 (refine tr_mv rfl (fun _ => rfl) ?_)
          refine tr_msn (j := 3 * a + (rd a).length) rfl (by omega) (by omega) rfl (fun _ => rfl) rfl rfl rfl ?_
          repeat (first | refine tr_mgr rfl (by decide) rfl ?_ | refine tr_mgi rfl (by decide) (by decide) rfl ?_ | refine tr_mv rfl (fun _ => rfl) ?_)
          refine tr_man (j := a) rfl (by omega) (by omega) rfl (fun _ => rfl) rfl rfl rfl ?_
          rw [setF_ne _ _ (by omega), setF_ne _ _ (by omega), hcr.1]
          iterate 2 (refine tr_mv rfl (fun _ => rfl) ?_)
          refine tr_msn (j := a) rfl (by omega) (by omega) rfl (fun _ => rfl) rfl rfl rfl ?_
          obtain ⟨S, hS⟩ : ∃ S, S = setF (setF (setF σ 480 0 0) 528 (3 * a + (rd a).length) y) 529 a (((rd a).length : Int) + 1) := ⟨_, rfl⟩
          have f529 : S.2 529 a = ((rd a).length : Int) + 1 := by rw [hS, setF_same]
          have f0 : S.2 480 0 = 0 := by rw [hS, setF_ne _ _ (by omega), setF_ne _ _ (by omega), setF_same]
          have fr : S.1 = σ.1 := by rw [hS]; rfl
          have fo : ∀ q j : Nat, ¬ (q = 528 ∧ j = 3 * a + (rd a).length) → ¬ (q = 529 ∧ j = a) → ¬ (q = 480 ∧ j = 0) → S.2 q j = σ.2 q j := fun q j h1 h2 h3 => by
            rw [hS, setF_ne _ _ (by omega), setF_ne _ _ (by omega), setF_ne _ _ (by omega)]
          have f528 : ∀ j, S.2 528 j = (setF σ 528 (3 * a + (rd a).length) y).2 528 j := fun j => by
            rw [hS, setF_ne _ _ (by omega)]
            exact setF_cong (fun j => setF_ne _ _ (by omega))
          rw [← hS]
          repeat (first | refine tr_mgr rfl (by decide) rfl ?_ | refine tr_mgi rfl (by decide) (by decide) rfl ?_ | refine tr_mv rfl (fun _ => rfl) ?_)
          refine tr_man (j := a) rfl (by omega) (by omega) rfl (fun _ => rfl) rfl rfl rfl ?_
          rw [f529]
          refine tr_ri rfl rfl (K3 a S rfl (by omega) hB g3 (by omega) ⟨(fo _ _ (by omega) (by omega) (by omega)).trans cC.1, cC.2.1.keep (fun j _ _ => fo _ _ (by omega) (by omega) (by omega)), cC.2.2.1.keep (fun j _ _ => fo _ _ (by omega) (by omega) (by omega)), fun i hi => ?_⟩ f0 ⟨fr, fun q j hq => fo _ _ (by omega) (by omega) (by omega)⟩)
          unfold rdU
          by_cases g6 : i = a
          · rw [if_pos g6, g6]
            refine ⟨by rw [f529]; simp, (hcr.2.push (v := y)).keep (fun j _ _ => f528 j)⟩
          · rw [if_neg g6]
            have h7 := hC.2.2.2.2 i hi
            exact ⟨(fo _ _ (by omega) (by omega) (by omega)).trans (cC.2.2.2 i hi).1, (cC.2.2.2 i hi).2.keep (fun j h8 h9 => fo _ _ (by omega) (by omega) (by omega))⟩
        · have g5 : ((rd a).length : Int) = 3 := Decidable.of_not_not g4
          repeat (refine tr_mv rfl (fun _ => rfl) ?_)
          exact bad _ 2 (by decide) (by decide) (K2 a rfl hB (Or.inr (by omega)))
theorem s_315 (hn : n ≤ 30) (hC : okCo n ws rs rd) (cC : mCo σ ws rs rd) (hx : in32 x) (hy : in32 y)
    (K1 : ¬ inW ws x → post (.inl (some (mI 0))) (setF σ 480 0 1))
    (K2 : ∀ p : Nat, x = (p : Int) → p < ws.length → y ≠ -1 → y ∉ rd (ws.getD p 0).toNat → post (.inl (some (mI 0))) (setF σ 480 0 2))
    (K3 : ∀ (p : Nat) (σ' : Sg), x = (p : Int) → p < ws.length → (y = -1 ∨ y ∈ rd (ws.getD p 0).toNat) → mCo σ' ws (rs.set p y) rd → σ'.2 480 0 = 0 → only cCo2 σ σ' → post (.inl (some (mI (rs.getD p 0)))) σ') :
    Tr Ls N 315 0 [some (mP (some 480)), some (mI x), some (mI y), none, none, none] [] σ post := by
  have hw30 := hC.1
  have hrl := hC.2.1
  have bad : ∀ (v3 v4 : Option mV) (c : Int), c ≠ 0 → in32 c → post (.inl (some (mI 0))) (setF σ 480 0 c) → Tr Ls N 315 55 [some (mP (some 480)), some (mI x), some (mI y), v3, v4, none] [mI c, mP (some 480)] σ post := by
    intro v3 v4 c h1 h2 h3
    refine tr_vc (q := 480) rfl isO_480 rfl rfl rfl (s_210 h2 ?_)
    rw [b2, if_neg h1]
    repeat (refine tr_mv rfl (fun _ => rfl) ?_)
    exact tr_ri rfl rfl h3
  iterate 2 (refine tr_mv rfl (fun _ => rfl) ?_)
  refine tr_vc (q := 480) rfl isO_480 rfl rfl rfl (s_311 hx cC.1 (by omega) ?_)
  by_cases g1 : 0 ≤ x ∧ x < (ws.length : Int)
  · rw [b2_pos g1]
    obtain ⟨p, rfl⟩ : ∃ p : Nat, x = (p : Int) := ⟨x.toNat, by omega⟩
    have hp : p < ws.length := by omega
    have hw := hC.2.2.1 _ (getD_mem hp)
    have e28 := cC.2.1.get0 hp
    have e29 := cC.2.2.1.get0 (show p < rs.length by omega)
    have good : (y = -1 ∨ y ∈ rd (ws.getD p 0).toNat) → Tr Ls N 315 29 [some (mP (some 480)), some (mI (p : Int)), some (mI y), some (mI 1), none, none] [] σ post := by
      intro hg
      iterate 9 (refine tr_mv rfl (fun _ => rfl) ?_)
      refine tr_vc (q := 480) rfl isO_480 rfl rfl rfl (s_210 (by decide) ?_)
      rw [b2, if_pos rfl]
      repeat (first | refine tr_mgr rfl (by decide) rfl ?_ | refine tr_mgi rfl (by decide) (by decide) rfl ?_ | refine tr_mv rfl (fun _ => rfl) ?_)
      refine tr_man (j := p) rfl (by omega) (by omega) rfl (fun _ => rfl) rfl rfl rfl ?_
      rw [setF_ne _ _ (by omega), e29]
      repeat (first | refine tr_mgr rfl (by decide) rfl ?_ | refine tr_mgi rfl (by decide) (by decide) rfl ?_ | refine tr_mv rfl (fun _ => rfl) ?_)
      refine tr_msn (j := 0 + p) rfl (by omega) (by omega) rfl (fun _ => rfl) rfl rfl rfl ?_
      iterate 1 (refine tr_mv rfl (fun _ => rfl) ?_)
      refine tr_ri rfl rfl (K3 p _ rfl hp hg ⟨?_, ?_, ?_, fun i hi => ⟨?_, ?_⟩⟩ ?_ ⟨rfl, fun q j hq => ?_⟩)
      · rw [setF_ne _ _ (by omega), setF_ne _ _ (by omega)]; exact cC.1
      · exact cC.2.1.keep (fun j _ _ => by rw [setF_ne _ _ (by omega), setF_ne _ _ (by omega)])
      · exact (cC.2.2.1.keep (σ' := setF σ 480 0 0) (fun j _ _ => setF_ne _ _ (by omega))).set
      · rw [setF_ne _ _ (by omega), setF_ne _ _ (by omega)]; exact (cC.2.2.2 i hi).1
      · exact (cC.2.2.2 i hi).2.keep (fun j _ _ => by rw [setF_ne _ _ (by omega), setF_ne _ _ (by omega)])
      · rw [setF_ne _ _ (by omega), setF_same]
      · rw [setF_ne _ _ (by omega), setF_ne _ _ (by omega)]
    iterate 5 (refine tr_mv rfl (fun _ => rfl) ?_)
    refine tr_cmp2 rfl (m32_of (by omega)) (m32_of (by omega)) (fun g2 => ?_) (fun g2 => ?_)
    · exact good (Or.inl g2)
    · have g3 : ¬ y = -1 := g2
      repeat (first | refine tr_mgr rfl (by decide) rfl ?_ | refine tr_mgi rfl (by decide) (by decide) rfl ?_ | refine tr_mv rfl (fun _ => rfl) ?_)
      refine tr_man (j := p) rfl (by omega) (by omega) rfl (fun _ => rfl) rfl rfl rfl ?_
      rw [e28, show ws.getD p 0 = (((ws.getD p 0).toNat : Nat) : Int) by omega]
      iterate 1 (refine tr_mv rfl (fun _ => rfl) ?_)
      refine tr_vc (q := 480) rfl isO_480 rfl rfl rfl (s_313 hC hn cC (a := (ws.getD p 0).toNat) (by omega) hy ?_)
      first | refine tr_ib rfl (fun g4 => ?_) (fun g4 => ?_) | refine tr_ibn rfl (fun g4 => ?_) (fun g4 => ?_)
      · repeat (refine tr_mv rfl (fun _ => rfl) ?_)
        exact bad _ _ 2 (by decide) (by decide) (K2 p rfl hp g3 g4)
      · exact good (Or.inr g4)
  · rw [b2_neg g1]
    repeat (refine tr_mv rfl (fun _ => rfl) ?_)
    exact bad _ _ 1 (by decide) (by decide) (K1 g1)
end MWORDS2
