/-! Lines in context: the model's. -/
def mLn (σ : Sg) (l : List Nat) : Prop := σ.2 480 64 = (l.length : Int) ∧ mseg σ 530 0 (ci l)
abbrev cLn (q i : Nat) : Prop := cQ q i ∨ q = 530 ∨ (q = 480 ∧ (i = 64 ∨ i = 0))
section MLINES
variable {Ls N k pc n n' nn b c t a q kd w d p X T : Nat} {L0 : mLs} {st r as : List mV} {h h' : mH} {σ σ' σ'' : Sg} {post : tP} {x y z x' y' i i' s v m u lv : Int} {xs ys ss L M A B ws rs : List Int} {e : mE} {C : Nat → Nat → Prop} {R : Nat → Prop} {tx : List (List Int)} {en : List EnT} {D : TD} {o : Nat → Int} {rd : Nat → List Int} {kt : Int → List Int}
theorem cLn_in {q i : Nat} (g : cLn q i) : q = 489 ∨ (504 ≤ q ∧ q ≤ 511) ∨ q = 530 ∨ (q = 480 ∧ (i = 13 ∨ i = 32 ∨ i = 34 ∨ i = 36 ∨ i = 38 ∨ i = 40 ∨ i = 64 ∨ i = 0)) := by
  rcases g with g | g
  · have := cQ_nin g; omega
  · omega
theorem s_318 (hM : tlM 0 σ D) (hD : okTD D) (hO : opM 0 σ o) (hT : okTx tx) (cT : mTx σ tx) (hC : okCo tx.length ws rs rd) (cC : mCo σ ws rs rd) (hx : in32 x) (hy : y = 0 ∨ y = 1) (hz : in32 z)
    (K1 : ∀ σ', ¬ ((0 ≤ x ∧ x < (tx.length : Int)) ∧ 0 ≤ z ∧ z < ((lnsL ws rs rd x).length : Int)) → σ'.2 480 0 = 1 → only cLn σ σ' → post (.inl (some (mI 0))) σ')
    (K2 : ∀ (j : Nat) (σ' : Sg), (0 ≤ x ∧ x < (tx.length : Int)) → z = (j : Int) → j < (lnsL ws rs rd x).length → σ'.2 480 0 = 0 → only cLn σ σ' → post (.inl (some (mI (((lnO tx D o ws rs rd x y).getD j 0 : Nat) : Int)))) σ') :
    Tr Ls N 318 0 [some (mP (some 480)), some (mI x), some (mI y), some (mI z), none, none, none] [] σ post := by
  have hT30 := hT.1
  have hw30 := hC.1
  have hll : (lnsL ws rs rd x).length ≤ ws.length := Nat.le_trans (List.length_filter_le _ _) (by simp)
  obtain ⟨sg, hsg⟩ : ∃ sg : Int, sg = if y = 1 then -1 else 1 := ⟨_, rfl⟩
  have hs : sg = -1 ∨ sg = 1 := by rw [hsg]; split; exact Or.inl rfl; exact Or.inr rfl
  have cT' : ∀ σ', only cLn σ σ' → mTx σ' tx := fun σ' g => cT.of g (fun q i h => by have := cLn_in h; omega)
  have cC' : ∀ σ', only cLn σ σ' → mCo σ' ws rs rd := fun σ' g => cC.of g (fun q i h => by have := cLn_in h; omega)
  have hM' : ∀ σ', only cLn σ σ' → tlM 0 σ' D := fun σ' g => hM.el g (fun q i h1 h2 h => by have := cLn_in h; omega)
  have hO' : ∀ σ', only cLn σ σ' → opM 0 σ' o := fun σ' g => hO.el g (fun i h => by have := cLn_in h; omega)
  -- no such text, or behind all words
  have none0 : ∀ (f : Int) (v5 v6 : Option mV) (σ' : Sg), only cLn σ σ' → ¬ ((0 ≤ x ∧ x < (tx.length : Int)) ∧ 0 ≤ z ∧ z < ((lnsL ws rs rd x).length : Int)) → Tr Ls N 318 148 [some (mP (some 480)), some (mI x), some (mI y), some (mI z), some (mI f), v5, v6] [mP (some 480)] σ' post := by
    intro f v5 v6 σ' ho hn
    iterate 1 (refine tr_mv rfl (fun _ => rfl) ?_)
    refine tr_vc (q := 480) rfl isO_480 rfl rfl rfl (s_210 (by decide) ?_)
    rw [b2, if_neg (by decide)]
    repeat (refine tr_mv rfl (fun _ => rfl) ?_)
    exact tr_ri rfl rfl (K1 _ hn (setF_same ..) (ho.setF (Or.inr (Or.inr ⟨rfl, Or.inr rfl⟩))))
  iterate 2 (refine tr_mv rfl (fun _ => rfl) ?_)
  refine tr_vc (q := 480) rfl isO_480 rfl rfl rfl (s_218 hx cT.1 (by omega) ?_)
  iterate 3 (refine tr_mv rfl (fun _ => rfl) ?_)
  refine tr_mpi rfl (Or.inl rfl) (by decide) rfl ?_
  have o1 : only cLn σ (setF σ 480 64 0) := only.rf.setF (Or.inr (Or.inr ⟨rfl, Or.inl rfl⟩))
  have q64 : (setF σ 480 64 0).2 480 64 = 0 := setF_same ..
  generalize setF σ 480 64 0 = σ1 at *
  by_cases g1 : 0 ≤ x ∧ x < (tx.length : Int)
  · rw [b2_pos g1]
    have loop : ∀ (d i : Nat) (v6 : Option mV) (σ' : Sg), i + d = ws.length → mLn σ' (ordW (kt3 tx D o) ws sg ((List.range i).filter (fun p => ownB rd (ws.getD p 0) (rs.getD p 0) x))) → only cLn σ σ' → Tr Ls N 318 15 [some (mP (some 480)), some (mI x), some (mI y), some (mI z), some (mI 1), some (mI (i : Int)), v6] [] σ' post := by
      intro d
      induction d with
      | zero =>
        intro i v6 σ' ei hl ho
        have hlo := lnO_len (tx := tx) (D := D) (o := o) (ws := ws) (rs := rs) (rd := rd) (x := x) y
        rw [show i = ws.length by omega, hsg, show ordW (kt3 tx D o) ws (if y = 1 then -1 else 1) ((List.range ws.length).filter (fun p => ownB rd (ws.getD p 0) (rs.getD p 0) x)) = lnO tx D o ws rs rd x y from rfl] at hl
        repeat (first | refine tr_mgr rfl (by decide) rfl ?_ | refine tr_mgi rfl (by decide) (by decide) rfl ?_ | refine tr_mv rfl (fun _ => rfl) ?_)
        rw [(cC' σ' ho).1]
        refine tr_cmp2 rfl (m32_of (by omega)) (m32_of (by omega)) (fun _ => ?_) (fun c1 => absurd (show (ws.length : Int) ≤ (i : Int) by omega) c1)
        repeat (first | refine tr_mgr rfl (by decide) rfl ?_ | refine tr_mgi rfl (by decide) (by decide) rfl ?_ | refine tr_mv rfl (fun _ => rfl) ?_)
        rw [hl.1, hlo]
        refine tr_stat rfl rfl rfl (s_211 hz (by decide) (by omega) ?_)
        first | refine tr_ib rfl (fun g2 => ?_) (fun g2 => ?_) | refine tr_ibn rfl (fun g2 => ?_) (fun g2 => ?_)
        · exact none0 _ _ _ σ' ho (fun g => g2 (by omega))
        · obtain ⟨j, rfl⟩ : ∃ j : Nat, z = (j : Int) := ⟨z.toNat, by omega⟩
          iterate 2 (refine tr_mv rfl (fun _ => rfl) ?_)
          refine tr_vc (q := 480) rfl isO_480 rfl rfl rfl (s_210 (by decide) ?_)
          rw [b2, if_pos rfl]
          have hv : σ'.2 530 j = (((lnO tx D o ws rs rd x y).getD j 0 : Nat) : Int) := by
            rw [hl.2.get0 (by rw [List.length_map]; omega), List.getD_eq_getElem?_getD, List.getD_eq_getElem?_getD, List.getElem?_map]
            cases (lnO tx D o ws rs rd x y)[j]? <;> rfl
          repeat (first | refine tr_mgr rfl (by decide) rfl ?_ | refine tr_mgi rfl (by decide) (by decide) rfl ?_ | refine tr_mv rfl (fun _ => rfl) ?_)
          refine tr_man (j := j) rfl (by omega) (by omega) rfl (fun _ => rfl) rfl rfl rfl ?_
          rw [setF_ne _ _ (by omega), hv]
          iterate 1 (refine tr_mv rfl (fun _ => rfl) ?_)
          exact tr_ri rfl rfl (K2 j _ g1 rfl (by omega) (setF_same ..) (ho.setF (Or.inr (Or.inr ⟨rfl, Or.inr rfl⟩))))
      | succ d ih =>
        intro i v6 σ' ei hl ho
        have hi : i < ws.length := by omega
        have k := ih (i + 1)
        rw [range_filter_succ] at k
        have hfl : ((List.range i).filter (fun p => ownB rd (ws.getD p 0) (rs.getD p 0) x)).length ≤ i := Nat.le_trans (List.length_filter_le _ _) (by simp)
        have hol := ordW_len (kt3 tx D o) ws sg ((List.range i).filter (fun p => ownB rd (ws.getD p 0) (rs.getD p 0) x)) []
        have hom := fun z => mem_ordW (kt := kt3 tx D o) (ws := ws) (s := sg) ((List.range i).filter (fun p => ownB rd (ws.getD p 0) (rs.getD p 0) x)) [] z
        have hfo : ∀ es, ordW (kt3 tx D o) ws sg ((List.range i).filter (fun p => ownB rd (ws.getD p 0) (rs.getD p 0) x) ++ es) = es.foldl (insW (kt3 tx D o) ws sg) (ordW (kt3 tx D o) ws sg ((List.range i).filter (fun p => ownB rd (ws.getD p 0) (rs.getD p 0) x))) := fun es => List.foldl_append
        rw [hfo] at k
        rw [show List.foldl (insW (kt3 tx D o) ws sg) [] ((List.range i).filter (fun p => ownB rd (ws.getD p 0) (rs.getD p 0) x)) = ordW (kt3 tx D o) ws sg ((List.range i).filter (fun p => ownB rd (ws.getD p 0) (rs.getD p 0) x)) from rfl] at hol
        rw [show List.foldl (insW (kt3 tx D o) ws sg) [] ((List.range i).filter (fun p => ownB rd (ws.getD p 0) (rs.getD p 0) x)) = ordW (kt3 tx D o) ws sg ((List.range i).filter (fun p => ownB rd (ws.getD p 0) (rs.getD p 0) x)) from rfl] at hom
        generalize ordW (kt3 tx D o) ws sg ((List.range i).filter (fun p => ownB rd (ws.getD p 0) (rs.getD p 0) x)) = acc at *
        have hmem : ∀ z ∈ acc, z < i := fun z hz => by
          rcases (hom z).mp hz with g | g
          · exact absurd g List.not_mem_nil
          · exact ((range_filter_mem _ _ _).mp g).1
        simp only [List.length_nil, Nat.zero_add] at hol
        have next : ∀ (v6 : Option mV) (σ' : Sg) (l : List Nat), l = (if ownB rd (ws.getD i 0) (rs.getD i 0) x = true then [i] else []).foldl (insW (kt3 tx D o) ws sg) acc → mLn σ' l → only cLn σ σ' → Tr Ls N 318 118 [some (mP (some 480)), some (mI x), some (mI y), some (mI z), some (mI 1), some (mI (i : Int)), v6] [] σ' post := by
          intro v6 σ' l el hl' ho'
          iterate 2 (refine tr_mv rfl (fun _ => rfl) ?_)
          show Tr Ls N 318 15 [some (mP (some 480)), some (mI x), some (mI y), some (mI z), some (mI 1), some (mI ((i : Int) + 1)), v6] [] σ' post
          rw [show (i : Int) + 1 = ((i + 1 : Nat) : Int) by omega]
          rw [el] at hl'
          exact k v6 σ' (by omega) hl' ho'
        repeat (first | refine tr_mgr rfl (by decide) rfl ?_ | refine tr_mgi rfl (by decide) (by decide) rfl ?_ | refine tr_mv rfl (fun _ => rfl) ?_)
        rw [(cC' σ' ho).1]
        refine tr_cmp2 rfl (m32_of (by omega)) (m32_of (by omega)) (fun c1 => absurd (show (ws.length : Int) ≤ (i : Int) from c1) (by omega)) (fun _ => ?_)
        iterate 5 (refine tr_mv rfl (fun _ => rfl) ?_)
        refine tr_vc (q := 480) rfl isO_480 rfl rfl rfl (s_316 hC hT30 (cC' σ' ho) (p := i) hi hx ?_)
        first | refine tr_ib rfl (fun g3 => ?_) (fun g3 => ?_) | refine tr_ibn rfl (fun g3 => ?_) (fun g3 => ?_)
        · exact next _ σ' acc (by rw [if_neg g3]; rfl) hl ho
        · have hnx : ∀ σ3 v6, mLn σ3 (insR (gnW (kt3 tx D o) ws sg i) i acc.reverse).reverse → only cLn σ σ3 → Tr Ls N 318 118 [some (mP (some 480)), some (mI x), some (mI y), some (mI z), some (mI 1), some (mI (i : Int)), v6] [] σ3 post := fun σ3 v6 k1 k2 => next v6 σ3 _ (by rw [if_pos g3]; rfl) k1 k2
          have hend : ∀ (ra B : List Nat) (σ2 : Sg), ra.length + B.length = acc.length → mseg σ2 530 0 (ci ra.reverse) → mseg σ2 530 (ra.length + 1) (ci B) → σ2.2 480 64 = (acc.length : Int) → only cLn σ σ2 → (∀ σ3, mLn σ3 (ra.reverse ++ i :: B) → only cLn σ σ3 → ∀ v6, Tr Ls N 318 118 [some (mP (some 480)), some (mI x), some (mI y), some (mI z), some (mI 1), some (mI (i : Int)), v6] [] σ3 post) → Tr Ls N 318 99 [some (mP (some 480)), some (mI x), some (mI y), some (mI z), some (mI 1), some (mI (i : Int)), some (mI (ra.length : Int))] [] σ2 post := by
            intro ra B σ2 hlen hA hB hc53 ho2 K'
            repeat (first | refine tr_mgr rfl (by decide) rfl ?_ | refine tr_mgi rfl (by decide) (by decide) rfl ?_ | refine tr_mv rfl (fun _ => rfl) ?_)
            refine tr_msn (j := ra.length) rfl (by omega) (by omega) rfl (fun _ => rfl) rfl rfl rfl ?_
            repeat (first | refine tr_mgr rfl (by decide) rfl ?_ | refine tr_mgi rfl (by decide) (by decide) rfl ?_ | refine tr_mv rfl (fun _ => rfl) ?_)
            rw [setF_ne _ _ (by omega), hc53]
            refine tr_mpi rfl (Or.inl rfl) (by decide) rfl ?_
            refine K' _ ⟨?_, fun j hj => ?_⟩ ((ho2.setF (Or.inr (Or.inl rfl))).setF (Or.inr (Or.inr ⟨rfl, Or.inl rfl⟩))) _
            · rw [setF_same]
              simp
              omega
            · rw [setF_ne _ _ (by omega), setF_get, show ci (ra.reverse ++ i :: B) = ci ra.reverse ++ (i : Int) :: ci B by simp, List.getD_eq_getElem?_getD]
              have hj2 : j < ra.length + 1 + B.length := by simp at hj; omega
              have hlr : (ci ra.reverse).length = ra.length := by simp
              by_cases e1 : j < ra.length
              · rw [if_neg (by omega), List.getElem?_append_left (by omega), ← List.getD_eq_getElem?_getD]
                exact hA j (by omega)
              · rw [List.getElem?_append_right (by omega), hlr]
                by_cases e2 : j = ra.length
                · rw [if_pos ⟨rfl, by omega⟩, e2]
                  simp
                · rw [if_neg (by omega), show j - ra.length = (j - ra.length - 1) + 1 by omega, List.getElem?_cons_succ, ← List.getD_eq_getElem?_getD]
                  have h7 := hB (j - ra.length - 1) (by simp; omega)
                  rw [show ra.length + 1 + (j - ra.length - 1) = 0 + j by omega] at h7
                  exact h7
          have inner : ∀ (ra B : List Nat) (σ2 : Sg), (∀ y ∈ ra, y < i) → ra.length + B.length = acc.length → mseg σ2 530 0 (ci ra.reverse) → mseg σ2 530 (ra.length + 1) (ci B) → σ2.2 480 64 = (acc.length : Int) → only cLn σ σ2 → (∀ σ3, mLn σ3 ((insR (gnW (kt3 tx D o) ws sg i) i ra).reverse ++ B) → only cLn σ σ3 → ∀ v6, Tr Ls N 318 118 [some (mP (some 480)), some (mI x), some (mI y), some (mI z), some (mI 1), some (mI (i : Int)), v6] [] σ3 post) → Tr Ls N 318 45 [some (mP (some 480)), some (mI x), some (mI y), some (mI z), some (mI 1), some (mI (i : Int)), some (mI (ra.length : Int))] [] σ2 post := by
            intro ra
            induction ra with
            | nil =>
              intro B σ2 hmm hlen hA hB hc53 ho2 K'
              iterate 1 (refine tr_mv rfl (fun _ => rfl) ?_)
              refine tr_if2 rfl (m32_of (x := 0) ⟨by decide, by decide⟩) (fun _ => ?_) (fun c9 => absurd (show (0 : Int) ≤ 0 by decide) c9)
              exact hend [] B σ2 hlen hA hB hc53 ho2 K'
            | cons u ra ihr =>
              intro B σ2 hmm hlen hA hB hc53 ho2 K'
              have hl2 : (u :: ra).length = ra.length + 1 := rfl
              have hui := hmm u List.mem_cons_self
              have hgu : σ2.2 530 (0 + ra.length) = (u : Int) := by
                rw [hA ra.length (by simp), show ci (u :: ra).reverse = ci ra.reverse ++ [(u : Int)] by simp, List.getD_eq_getElem?_getD]
                simp
              unfold insR at K'
              iterate 1 (refine tr_mv rfl (fun _ => rfl) ?_)
              refine tr_if2 rfl (m32_of (by omega)) (fun c9 => absurd c9 (by show ¬ _ ≤ _; omega)) (fun _ => ?_)
              repeat (first | refine tr_mgr rfl (by decide) rfl ?_ | refine tr_mgi rfl (by decide) (by decide) rfl ?_ | refine tr_mv rfl (fun _ => rfl) ?_)
              refine tr_man (j := 0 + ra.length) rfl (by omega) (by omega) rfl (fun _ => rfl) rfl rfl rfl ?_
              rw [hgu]
              have t71 : Tr Ls N 318 71 [some (mP (some 480)), some (mI x), some (mI y), some (mI z), some (mI 1), some (mI (i : Int)), some (mI ((u :: ra).length : Int))] [mI sg, mI (u : Int), mI (i : Int), mP (some 480)] σ2 post := by
                refine tr_vc (q := 480) rfl isO_480 rfl rfl rfl (s_317 (hM' σ2 ho2) hD (hO' σ2 ho2) hT (cT' σ2 ho2) hC (cC' σ2 ho2) (a := i) (b := u) hi hui hs (fun σ3 o3 => ?_))
                have ho3 := ho2.tr (o3.wk (fun q i h => Or.inl h))
                have hA3 := hA.only o3 (fun i _ _ g => by have := cQ_nin g; omega)
                have hB3 := hB.only o3 (fun i _ _ g => by have := cQ_nin g; omega)
                have hgu3 : σ3.2 530 (0 + ra.length) = (u : Int) := by rw [o3.2 _ _ (fun g => by have := cQ_nin g; omega)]; exact hgu
                have hc3 : σ3.2 480 64 = (acc.length : Int) := by rw [o3.2 _ _ (fun g => by have := cQ_nin g; omega)]; exact hc53
                first | refine tr_ib rfl (fun c3 => ?_) (fun c3 => ?_) | refine tr_ibn rfl (fun c3 => ?_) (fun c3 => ?_)
                · rw [if_neg c3] at K'
                  exact hend (u :: ra) B σ3 hlen hA3 hB3 hc3 ho3 (by simpa using K')
                · rw [if_pos c3] at K'
                  repeat (first | refine tr_mgr rfl (by decide) rfl ?_ | refine tr_mgi rfl (by decide) (by decide) rfl ?_ | refine tr_mv rfl (fun _ => rfl) ?_)
                  refine tr_man (j := 0 + ra.length) rfl (by omega) (by omega) rfl (fun _ => rfl) rfl rfl rfl ?_
                  rw [hgu3]
                  refine tr_msn (j := (u :: ra).length) rfl (by omega) (by omega) rfl (fun _ => rfl) rfl rfl rfl ?_
                  iterate 2 (refine tr_mv rfl (fun _ => rfl) ?_)
                  show Tr Ls N 318 45 [some (mP (some 480)), some (mI x), some (mI y), some (mI z), some (mI 1), some (mI (i : Int)), some (mI (((u :: ra).length : Int) + -1))] [] _ post
                  rw [show (((u :: ra).length : Nat) : Int) + -1 = (ra.length : Int) by omega]
                  refine ihr (u :: B) _ (fun z hz => hmm z (List.mem_cons_of_mem _ hz)) (by simp at hlen ⊢; omega) (fun j hj => ?_) (fun j hj => ?_) ((setF_ne _ _ (by omega)).trans hc3) (ho3.setF (Or.inr (Or.inl rfl))) (by simpa using K')
                  · have hj2 : j < ra.length := by simpa using hj
                    rw [setF_ne _ _ (by omega), hA3 j (by simp; omega), show ci (u :: ra).reverse = ci ra.reverse ++ [(u : Int)] by simp, List.getD_eq_getElem?_getD, List.getElem?_append_left (by simp; omega), ← List.getD_eq_getElem?_getD]
                  · have hj2 : j < B.length + 1 := by simpa using hj
                    rw [setF_get]
                    by_cases e1 : j = 0
                    · rw [if_pos ⟨rfl, by omega⟩, e1]
                      rfl
                    · rw [if_neg (by omega), show ra.length + 1 + j = (u :: ra).length + 1 + (j - 1) by omega, hB3 (j - 1) (by simp; omega), List.getD_eq_getElem?_getD, List.getD_eq_getElem?_getD, show ci (u :: B) = (u : Int) :: ci B from rfl]
                      obtain ⟨z, rfl⟩ : ∃ z, j = z + 1 := ⟨j - 1, by omega⟩
                      rfl
              iterate 1 (refine tr_mv rfl (fun _ => rfl) ?_)
              refine tr_if2 rfl (m32_of (by omega)) (fun c4 => ?_) (fun c4 => ?_)
              · have c5 : y = 0 := c4
                iterate 1 (refine tr_mv rfl (fun _ => rfl) ?_)
                rw [hsg, if_neg (by omega)] at t71
                exact t71
              · have c5 : ¬ y = 0 := c4
                iterate 2 (refine tr_mv rfl (fun _ => rfl) ?_)
                rw [hsg, if_pos (by omega)] at t71
                exact t71
          have h9 := inner acc.reverse [] σ' (fun y hy => hmem y (List.mem_reverse.mp hy)) (by simp) (by rw [List.reverse_reverse]; exact hl.2) (fun j hj => absurd hj (Nat.not_lt_zero _)) hl.1 ho (fun σ3 k1 k2 v6 => hnx σ3 v6 (by simpa using k1) k2)
          rw [List.length_reverse] at h9
          iterate 1 (refine tr_mv rfl (fun _ => rfl) ?_)
          refine tr_mgi rfl (by decide) (by decide) rfl ?_
          rw [hl.1]
          iterate 1 (refine tr_mv rfl (fun _ => rfl) ?_)
          exact h9
    iterate 2 (refine tr_mv rfl (fun _ => rfl) ?_)
    exact loop ws.length 0 none σ1 (by omega) ⟨q64, fun i hi => absurd hi (Nat.not_lt_zero _)⟩ o1
  · rw [b2_neg g1]
    iterate 2 (refine tr_mv rfl (fun _ => rfl) ?_)
    repeat (first | refine tr_mgr rfl (by decide) rfl ?_ | refine tr_mgi rfl (by decide) (by decide) rfl ?_ | refine tr_mv rfl (fun _ => rfl) ?_)
    rw [(cC' σ1 o1).1]
    refine tr_cmp2 rfl (m32_of (by omega)) (m32_of (by omega)) (fun _ => ?_) (fun _ => ?_)
    · repeat (refine tr_mv rfl (fun _ => rfl) ?_)
      refine tr_vc (q := 480) rfl isO_480 rfl rfl rfl (s_210 (by decide) ?_)
      rw [b2, if_neg (by decide)]
      repeat (refine tr_mv rfl (fun _ => rfl) ?_)
      exact tr_ri rfl rfl (K1 _ (fun g => g1 g.1) (setF_same ..) (o1.setF (Or.inr (Or.inr ⟨rfl, Or.inr rfl⟩))))
    · repeat (refine tr_mv rfl (fun _ => rfl) ?_)
      refine tr_vc (q := 480) rfl isO_480 rfl rfl rfl (s_210 (by decide) ?_)
      rw [b2, if_neg (by decide)]
      repeat (refine tr_mv rfl (fun _ => rfl) ?_)
      exact tr_ri rfl rfl (K1 _ (fun g => g1 g.1) (setF_same ..) (o1.setF (Or.inr (Or.inr ⟨rfl, Or.inr rfl⟩))))
end MLINES
