/-! Lines in context: the class's; words told. -/
/-- keys of texts by the first tailoring, on three levels -/
def kt3 (tx : List (List Int)) (D : TD) (o : Nat → Int) (w : Int) : List Int := keyOf D o 3 (tx.getD w.toNat [])
abbrev lnR (a : Nat) : Prop := colR a ∨ a = 144 ∨ isKy a
abbrev lnC (q i : Nat) : Prop := (q = 109 ∨ q = 120) ∧ i = 5
theorem range_filter_mem (p : Nat → Bool) (n x : Nat) : x ∈ (List.range n).filter p ↔ x < n ∧ p x = true := by
  rw [List.mem_filter, List.mem_range]
section WORDS2
variable {Ls N k pc n n' nn b c t a q kd w d p X T : Nat} {L0 : mLs} {st r as : List mV} {h h' : mH} {σ σ' σ'' : Sg} {post : tP} {x y z x' y' i i' s v m u lv : Int} {xs ys ss L M A B ws rs : List Int} {e : mE} {C : Nat → Nat → Prop} {R : Nat → Prop} {tx : List (List Int)} {en : List EnT} {D : TD} {o : Nat → Int} {rd : Nat → List Int} {kt : Int → List Int}
theorem cCo.of (h : cCo σ ws rs rd) (hc : chg R C σ σ') (hR : ∀ a, R a → ¬ (38 ≤ a ∧ a ≤ 101)) : cCo σ' ws rs rd :=
  ⟨(hc.1 _ (fun g => hR _ g (by omega))).trans h.1, (hc.1 _ (fun g => hR _ g (by omega))).trans h.2.1, fun i hi => (hc.1 _ (fun g => hR _ g (by omega))).trans (h.2.2 i hi)⟩
theorem s_203 (hT : okTx tx) (cT : cTx σ tx) (hD2 : okTD D) (hD : tlC 273 σ D) (hO : opC 273 σ o) (hC : okCo tx.length ws rs rd) (cC : cCo σ ws rs rd) (hx : in32 x) (hy : y = 0 ∨ y = 1)
    (K : ∀ σ', σ'.1 144 = ci (ordW (kt3 tx D o) ws (if y = 1 then -1 else 1) (lnsL ws rs rd x)) → chg lnR lnC σ σ' → post (.inl none) σ') :
    Tr Ls N 203 0 [some (mP (some 2)), some (mI x), some (mI y), none] [] σ post := by
  have hT30 := hT.1
  have hw30 := hC.1
  obtain ⟨sg, hsg⟩ : ∃ sg : Int, sg = if y = 1 then -1 else 1 := ⟨_, rfl⟩
  rw [← hsg] at K
  have hs : sg = -1 ∨ sg = 1 := by rw [hsg]; split; exact Or.inl rfl; exact Or.inr rfl
  have L2 : ∀ (d j : Nat) (σ' : Sg), j + d = ws.length → σ'.1 144 = ci (ordW (kt3 tx D o) ws sg ((List.range j).filter (fun p => ownB rd (ws.getD p 0) (rs.getD p 0) x))) → keyed σ' tx.length (kt3 tx D o) → chg lnR lnC σ σ' → Tr Ls N 203 49 [some (mP (some 2)), some (mI x), some (mI y), some (mI (j : Int))] [] σ' post := by
    intro d
    induction d with
    | zero =>
      intro j σ' e z144 zk zc
      have cC' := cC.of zc (fun a h => by omega)
      iterate 2 (refine tr_mv rfl (fun _ => rfl) ?_)
      refine tr_gr rfl ⟨by decide, rfl⟩ (by decide) rfl ?_
      refine tr_vc (q := 37) rfl ⟨by decide, by decide +kernel⟩ rfl rfl rfl (s_25 ?_)
      rw [cC'.1]
      refine tr_cmp2 rfl (m32_of (by omega)) (m32_of (by omega)) (fun _ => ?_) (fun c9 => absurd (show (ws.length : Int) ≤ (j : Int) by omega) c9)
      refine tr_ret rfl (fun _ => rfl) (K σ' ?_ zc)
      rw [z144, show j = ws.length by omega]
      rfl
    | succ d ih =>
      intro j σ' e z144 zk zc
      have cC' := cC.of zc (fun a h => by omega)
      iterate 2 (refine tr_mv rfl (fun _ => rfl) ?_)
      refine tr_gr rfl ⟨by decide, rfl⟩ (by decide) rfl ?_
      refine tr_vc (q := 37) rfl ⟨by decide, by decide +kernel⟩ rfl rfl rfl (s_25 ?_)
      rw [cC'.1]
      refine tr_cmp2 rfl (m32_of (by omega)) (m32_of (by omega)) (fun c9 => absurd (show (ws.length : Int) ≤ (j : Int) from c9) (by omega)) (fun _ => ?_)
      have k := ih (j + 1)
      rw [range_filter_succ] at k
      have hfl : ((List.range j).filter (fun p => ownB rd (ws.getD p 0) (rs.getD p 0) x)).length ≤ j := Nat.le_trans (List.length_filter_le _ _) (by simp)
      have hol := ordW_len (kt3 tx D o) ws sg ((List.range j).filter (fun p => ownB rd (ws.getD p 0) (rs.getD p 0) x)) []
      have hom := fun z => mem_ordW (kt := kt3 tx D o) (ws := ws) (s := sg) ((List.range j).filter (fun p => ownB rd (ws.getD p 0) (rs.getD p 0) x)) [] z
      have hfo : ∀ es, ordW (kt3 tx D o) ws sg ((List.range j).filter (fun p => ownB rd (ws.getD p 0) (rs.getD p 0) x) ++ es) = es.foldl (insW (kt3 tx D o) ws sg) (ordW (kt3 tx D o) ws sg ((List.range j).filter (fun p => ownB rd (ws.getD p 0) (rs.getD p 0) x))) := fun es => List.foldl_append
      rw [hfo] at k
      rw [show List.foldl (insW (kt3 tx D o) ws sg) [] ((List.range j).filter (fun p => ownB rd (ws.getD p 0) (rs.getD p 0) x)) = ordW (kt3 tx D o) ws sg ((List.range j).filter (fun p => ownB rd (ws.getD p 0) (rs.getD p 0) x)) from rfl] at hol hom
      generalize ordW (kt3 tx D o) ws sg ((List.range j).filter (fun p => ownB rd (ws.getD p 0) (rs.getD p 0) x)) = acc at *
      have hmem : ∀ z ∈ acc, z < j := fun z hz => by
        rcases (hom z).mp hz with g | g
        · exact absurd g List.not_mem_nil
        · exact ((range_filter_mem _ _ _).mp g).1
      simp only [List.length_nil, Nat.zero_add] at hol
      iterate 1 (refine tr_mv rfl (fun _ => rfl) ?_)
      refine tr_gr rfl ⟨by decide, rfl⟩ (by decide) rfl ?_
      iterate 2 (refine tr_mv rfl (fun _ => rfl) ?_)
      refine tr_vc (q := 37) rfl ⟨by decide, by decide +kernel⟩ rfl rfl rfl (s_32 hC hT30 cC' (p := j) (by omega) hx ?_)
      first | refine tr_ib rfl (fun g1 => ?_) (fun g1 => ?_) | refine tr_ibn rfl (fun g1 => ?_) (fun g1 => ?_)
      · rw [if_neg g1] at k
        iterate 2 (refine tr_mv rfl (fun _ => rfl) ?_)
        show Tr Ls N 203 49 [some (mP (some 2)), some (mI x), some (mI y), some (mI ((j : Int) + 1))] [] σ' post
        rw [show (j : Int) + 1 = ((j + 1 : Nat) : Int) by omega]
        exact k σ' (by omega) z144 zk zc
      · rw [if_pos g1] at k
        have t83 : Tr Ls N 203 83 [some (mP (some 2)), some (mI x), some (mI y), some (mI (j : Int))] [mI sg, mI (j : Int), mP (some 2)] σ' post := by
          refine tr_vc (q := 2) rfl ⟨by decide, by decide +kernel⟩ rfl rfl rfl (s_204 (n := tx.length) hw30 hC.2.2.1 hT30 cC'.1 zk (p := j) (by omega) z144 (by omega) (fun z hz => by have := hmem z hz; omega) hs ?_)
          iterate 2 (refine tr_mv rfl (fun _ => rfl) ?_)
          show Tr Ls N 203 49 [some (mP (some 2)), some (mI x), some (mI y), some (mI ((j : Int) + 1))] [] _ post
          rw [show (j : Int) + 1 = ((j + 1 : Nat) : Int) by omega]
          exact k _ (by omega) (setR_same ..) (fun i hi => by rw [setR_ne _ _ (by omega)]; exact zk i hi) (zc.setR (by omega))
        iterate 3 (refine tr_mv rfl (fun _ => rfl) ?_)
        refine tr_if2 rfl (m32_of (by omega)) (fun g2 => ?_) (fun g2 => ?_)
        · have g3 : y = 0 := g2
          iterate 1 (refine tr_mv rfl (fun _ => rfl) ?_)
          rw [if_neg (by omega)] at hsg
          rw [hsg] at t83
          exact t83
        · have g3 : ¬ y = 0 := g2
          iterate 2 (refine tr_mv rfl (fun _ => rfl) ?_)
          rw [if_pos (by omega)] at hsg
          rw [hsg] at t83
          exact t83
  have L1 : ∀ (d j : Nat) (σ' : Sg), j + d = tx.length → keyed σ' j (kt3 tx D o) → chg lnR lnC σ σ' → Tr Ls N 203 2 [some (mP (some 2)), some (mI x), some (mI y), some (mI (j : Int))] [] σ' post := by
    intro d
    induction d with
    | zero =>
      intro j σ' e zk zc
      have cT' := cT.of zc hT30 (fun a h => by omega) (by omega)
      iterate 2 (refine tr_mv rfl (fun _ => rfl) ?_)
      refine tr_gi rfl (by decide) ⟨by decide, by decide +kernel⟩ (by decide) (by decide +kernel) rfl ?_
      rw [cT'.1]
      refine tr_cmp2 rfl (m32_of (by omega)) (m32_of (by omega)) (fun _ => ?_) (fun c9 => absurd (show (tx.length : Int) ≤ (j : Int) by omega) c9)
      iterate 1 (refine tr_mv rfl (fun _ => rfl) ?_)
      refine tr_gr rfl ⟨by decide, rfl⟩ (by decide) rfl ?_
      refine tr_clear r_144 rfl rfl ?_
      iterate 2 (refine tr_mv rfl (fun _ => rfl) ?_)
      exact L2 ws.length 0 _ (by omega) (setR_same ..) (fun i hi => by rw [setR_ne _ _ (by omega)]; exact zk i (by omega)) (zc.setR (by omega))
    | succ d ih =>
      intro j σ' e zk zc
      have cT' := cT.of zc hT30 (fun a h => by omega) (by omega)
      have hj : j < tx.length := by omega
      have htx := okTx_get hT hj
      iterate 2 (refine tr_mv rfl (fun _ => rfl) ?_)
      refine tr_gi rfl (by decide) ⟨by decide, by decide +kernel⟩ (by decide) (by decide +kernel) rfl ?_
      rw [cT'.1]
      refine tr_cmp2 rfl (m32_of (by omega)) (m32_of (by omega)) (fun c9 => absurd (show (tx.length : Int) ≤ (j : Int) from c9) (by omega)) (fun _ => ?_)
      iterate 1 (refine tr_mv rfl (fun _ => rfl) ?_)
      refine tr_gr rfl ⟨by decide, rfl⟩ (by decide) rfl ?_
      iterate 1 (refine tr_mv rfl (fun _ => rfl) ?_)
      refine tr_gr rfl ⟨by decide, rfl⟩ (by decide) rfl ?_
      iterate 1 (refine tr_mv rfl (fun _ => rfl) ?_)
      refine tr_aan (d := 0) (w := 273) (nn := 3) rfl (by decide) (by decide) rfl (by decide +kernel) (by decide) rfl ?_
      iterate 3 (refine tr_mv rfl (fun _ => rfl) ?_)
      refine tr_vc (q := 2) rfl ⟨by decide, by decide +kernel⟩ rfl rfl rfl (s_169 (p := j) (by omega) ?_)
      iterate 2 (refine tr_mv rfl (fun _ => rfl) ?_)
      refine tr_vc (q := 2) rfl ⟨by decide, by decide +kernel⟩ rfl rfl rfl (s_170 (p := j) (by omega) ?_)
      refine tr_vc (q := 108) rfl ⟨by decide, by decide +kernel⟩ rfl rfl rfl (s_2 (d := 3) (t := 273) (ss := tx.getD j []) (Or.inr (Or.inl rfl)) hD2 (hD.of zc (fun a h => by omega)) (hO.of zc (fun i => by omega)) (r_T (by omega)) (by omega) (cT'.2 j hj) htx.1 (by omega) (by decide) ⟨r_K (by omega), by omega, by omega⟩ (by omega) (fun σ3 y1 y2 => ?_))
      iterate 2 (refine tr_mv rfl (fun _ => rfl) ?_)
      show Tr Ls N 203 2 [some (mP (some 2)), some (mI x), some (mI y), some (mI ((j : Int) + 1))] [] σ3 post
      rw [show (j : Int) + 1 = ((j + 1 : Nat) : Int) by omega]
      refine ih (j + 1) σ3 (by omega) (fun i hi => ?_) (zc.tr (y2.wk (fun a ha => by omega) (fun q j hq => by omega)))
      by_cases g : i = j
      · rw [g]
        exact y1
      · rw [y2.1 _ (by omega)]
        exact zk i (by omega)
  iterate 2 (refine tr_mv rfl (fun _ => rfl) ?_)
  exact L1 tx.length 0 σ (by omega) (fun i hi => absurd hi (Nat.not_lt_zero _)) chg.rf
abbrev lnO (tx : List (List Int)) (D : TD) (o : Nat → Int) (ws rs : List Int) (rd : Nat → List Int) (x y : Int) : List Nat := ordW (kt3 tx D o) ws (if y = 1 then -1 else 1) (lnsL ws rs rd x)
theorem lnO_len (y : Int) : (lnO tx D o ws rs rd x y).length = (lnsL ws rs rd x).length := by
  have := ordW_len (kt3 tx D o) ws (if y = 1 then -1 else 1) (lnsL ws rs rd x) []
  rw [List.length_nil, Nat.zero_add] at this
  exact this
theorem s_164 (hT : okTx tx) (cT : cTx σ tx) (hD2 : okTD D) (hD : tlC 273 σ D) (hO : opC 273 σ o) (hC : okCo tx.length ws rs rd) (cC : cCo σ ws rs rd) (hx : in32 x) (hy : y = 0 ∨ y = 1) (hz : in32 z)
    (K1 : ¬ ((0 ≤ x ∧ x < (tx.length : Int)) ∧ 0 ≤ z ∧ z < ((lnsL ws rs rd x).length : Int)) → post (.inr 0) σ)
    (K2 : ∀ (j : Nat) (σ' : Sg), (0 ≤ x ∧ x < (tx.length : Int)) → z = (j : Int) → j < (lnsL ws rs rd x).length → chg lnR lnC σ σ' → post (.inl (some (mI (((lnO tx D o ws rs rd x y).getD j 0 : Nat) : Int)))) σ') :
    Tr Ls (N + 1) 164 0 [some (mP (some 2)), some (mI x), some (mI y), some (mI z)] [] σ post := by
  have hT30 := hT.1
  have hw30 := hC.1
  have hll : (lnsL ws rs rd x).length ≤ ws.length := Nat.le_trans (List.length_filter_le _ _) (by simp)
  iterate 2 (refine tr_mv rfl (fun _ => rfl) ?_)
  refine tr_vc (q := 2) rfl ⟨by decide, by decide +kernel⟩ rfl rfl rfl (s_166 hx (by rw [cT.1]; omega) ?_)
  rw [cT.1]
  first | refine tr_ib rfl (fun g1 => ?_) (fun g1 => ?_) | refine tr_ibn rfl (fun g1 => ?_) (fun g1 => ?_)
  · exact tr_throw rfl (K1 (fun g => g1 g.1))
  · iterate 1 (refine tr_mv rfl (fun _ => rfl) ?_)
    refine tr_if2 rfl (m32_of (by omega)) (fun g2 => ?_) (fun g2 => ?_)
    · have g3 : z < 0 := g2
      exact tr_throw rfl (K1 (fun g => by omega))
    · have g3 : ¬ z < 0 := g2
      iterate 2 (refine tr_mv rfl (fun _ => rfl) ?_)
      refine tr_gr rfl ⟨by decide, rfl⟩ (by decide) rfl ?_
      iterate 1 (refine tr_mv rfl (fun _ => rfl) ?_)
      refine tr_vc (q := 37) rfl ⟨by decide, by decide +kernel⟩ rfl rfl rfl (s_33 hC hT30 cC hx ?_)
      refine tr_cmp2 rfl (m32_of (by omega)) (m32_of (by omega)) (fun g4 => ?_) (fun g4 => ?_)
      · have g5 : z < ((lnsL ws rs rd x).length : Int) := g4
        obtain ⟨j, rfl⟩ : ∃ j : Nat, z = (j : Int) := ⟨z.toNat, by omega⟩
        iterate 3 (refine tr_mv rfl (fun _ => rfl) ?_)
        refine tr_vc (q := 2) rfl ⟨by decide, by decide +kernel⟩ rfl rfl rfl (s_203 hT cT hD2 hD hO hC cC hx hy (fun σ2 y1 y2 => ?_))
        iterate 1 (refine tr_mv rfl (fun _ => rfl) ?_)
        refine tr_gr rfl ⟨by decide, rfl⟩ (by decide) rfl ?_
        iterate 1 (refine tr_mv rfl (fun _ => rfl) ?_)
        refine tr_at2 r_144 (m32_of (by omega)) rfl rfl ?_
        have hlo := lnO_len (tx := tx) (D := D) (o := o) (ws := ws) (rs := rs) (rd := rd) (x := x) y
        have hv : rget (σ2.1 144) (j : Int) = (((lnO tx D o ws rs rd x y).getD j 0 : Nat) : Int) := by
          rw [show σ2.1 144 = ci (lnO tx D o ws rs rd x y) from y1, rget_nat (by rw [List.length_map]; omega), List.getD_eq_getElem?_getD, List.getD_eq_getElem?_getD, List.getElem?_map]
          cases (lnO tx D o ws rs rd x y)[j]? <;> rfl
        rw [hv]
        exact tr_ri rfl rfl (K2 j σ2 g1 rfl (by omega) y2)
      · have g5 : ¬ z < ((lnsL ws rs rd x).length : Int) := g4
        exact tr_throw rfl (K1 (fun g => by omega))
/-! words told -/
theorem s_141 (hT : okTx tx) (cT : cTx σ tx) (hC : okCo tx.length ws rs rd) (cC : cCo σ ws rs rd) (hx : in32 x)
    (K1 : ¬ (0 ≤ x ∧ x < (tx.length : Int)) → post (.inr 0) σ)
    (K2 : (0 ≤ x ∧ x < (tx.length : Int)) → ws.length = 30 → post (.inr 2) σ)
    (K3 : (0 ≤ x ∧ x < (tx.length : Int)) → ws.length < 30 → post (.inl (some (mI (ws.length : Int)))) (setR (setR σ 38 (ws ++ [x])) 40 (rs ++ [-1]))) :
    Tr Ls (N + 1) 141 0 [some (mP (some 2)), some (mI x)] [] σ post := by
  have hT30 := hT.1
  have hw30 := hC.1
  have hrl := hC.2.1
  iterate 2 (refine tr_mv rfl (fun _ => rfl) ?_)
  refine tr_vc (q := 2) rfl ⟨by decide, by decide +kernel⟩ rfl rfl rfl (s_166 hx (by rw [cT.1]; omega) ?_)
  rw [cT.1]
  first | refine tr_ib rfl (fun g1 => ?_) (fun g1 => ?_) | refine tr_ibn rfl (fun g1 => ?_) (fun g1 => ?_)
  · iterate 1 (refine tr_mv rfl (fun _ => rfl) ?_)
    refine tr_gr rfl ⟨by decide, rfl⟩ (by decide) rfl ?_
    refine tr_vc (q := 37) rfl ⟨by decide, by decide +kernel⟩ rfl rfl rfl (s_25 ?_)
    rw [cC.1]
    iterate 1 (refine tr_mv rfl (fun _ => rfl) ?_)
    refine tr_cmp2 rfl (m32_of (by omega)) (m32_of (by omega)) (fun g2 => ?_) (fun g2 => ?_)
    · have g3 : (ws.length : Int) < 30 := g2
      iterate 1 (refine tr_mv rfl (fun _ => rfl) ?_)
      refine tr_gr rfl ⟨by decide, rfl⟩ (by decide) rfl ?_
      iterate 1 (refine tr_mv rfl (fun _ => rfl) ?_)
      refine tr_vc (q := 37) rfl ⟨by decide, by decide +kernel⟩ rfl rfl rfl (s_27 hx (by rw [cC.1, cC.2.1]; omega) ?_)
      rw [cC.1, cC.2.1]
      iterate 1 (refine tr_mv rfl (fun _ => rfl) ?_)
      refine tr_gr rfl ⟨by decide, rfl⟩ (by decide) rfl ?_
      refine tr_vc (q := 37) rfl ⟨by decide, by decide +kernel⟩ rfl rfl rfl (s_25 ?_)
      rw [setR_ne _ _ (by decide), setR_same]
      iterate 2 (refine tr_mv rfl (fun _ => rfl) ?_)
      refine tr_ri rfl ?_ (K3 g1 (by omega))
      simp
    · have g3 : ¬ (ws.length : Int) < 30 := g2
      exact tr_throw rfl (K2 g1 (by omega))
  · exact tr_throw rfl (K1 g1)
end WORDS2
