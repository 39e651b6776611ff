/-! The model: codes of rows; a list copied. -/
def cdR (xs : List Int) : Int := if 3 < xs.length then 0 else cdL xs
/-- the anchor at hand -/
def mAn (σ : Sg) (an : List Int) : Prop := ((an = [] ∧ σ.2 480 6 = -1) ∨ (an ≠ [] ∧ σ.2 480 6 = (an.length : Int))) ∧ mseg σ 484 0 an
theorem cdL_snoc (xs : List Int) (x : Int) : cdL (xs ++ [x]) = cdL xs * 100 + x + 1 := by
  unfold cdL
  rw [List.foldl_append]
  rfl
section MCODE
variable {Ls N k pc n n' nn b c t a q T F kd w : Nat} {L L0 : mLs} {st r as : List mV} {h h' : mH} {σ σ' σ'' : Sg} {post : tP} {x y z x' y' i i' s v m how : Int} {xs ys its lvs sv sg hs is ans an : List Int} {e : mE} {C : Nat → Nat → Prop} {D : TD}
theorem s_245 (hR : mrow σ xs) (hl : xs.length ≤ 60) (h48 : ∀ x ∈ xs, 0 ≤ x ∧ x < 48) (K : post (.inl (some (mI (cdR xs)))) σ) : Tr Ls N 245 0 [some (mP (some 480)), none, none] [] σ post := by
  have hcb : ∀ done rest : List Int, xs = done ++ rest → xs.length ≤ 3 → 0 ≤ cdL done ∧ cdL done < 1010101 := fun done rest e h3 => by
    have h9 := congrArg List.length e
    rw [List.length_append] at h9
    exact cdL_in done (by omega) (fun y hy => by have := h48 y (by rw [e]; exact List.mem_append.mpr (Or.inl hy)); omega)
  have loop : ∀ (rest done : List Int), xs = done ++ rest → Tr Ls N 245 4 [some (mP (some 480)), some (mI (if 3 < xs.length then 0 else cdL done)), some (mI (done.length : Int))] [] σ post := by
    intro rest
    induction rest with
    | nil =>
      intro done e
      rw [List.append_nil] at e
      repeat (first | refine tr_mgr rfl (by decide) rfl ?_ | refine tr_mgi rfl (by decide) (by decide) rfl ?_ | refine tr_mv rfl (fun _ => rfl) ?_)
      rw [hR.1, ← e]
      refine tr_cmp2 rfl (m32_of (by omega)) (m32_of (by omega)) (fun _ => ?_) (fun c9 => absurd (Int.le_refl _) c9)
      iterate 1 (refine tr_mv rfl (fun _ => rfl) ?_)
      exact tr_ri rfl rfl K
    | cons u rest ih =>
      intro done e
      have hlen := congrArg List.length e
      rw [List.length_append, List.length_cons] at hlen
      have k := ih (done ++ [u]) (by rw [e]; simp)
      have hu := h48 u (by rw [e]; simp)
      repeat (first | refine tr_mgr rfl (by decide) rfl ?_ | refine tr_mgi rfl (by decide) (by decide) rfl ?_ | refine tr_mv rfl (fun _ => rfl) ?_)
      rw [hR.1]
      refine tr_cmp2 rfl (m32_of (by omega)) (m32_of (by omega)) (fun c9 => absurd (show (xs.length : Int) ≤ (done.length : Int) from c9) (by omega)) (fun _ => ?_)
      repeat (first | refine tr_mgr rfl (by decide) rfl ?_ | refine tr_mgi rfl (by decide) (by decide) rfl ?_ | refine tr_mv rfl (fun _ => rfl) ?_)
      rw [hR.1]
      refine tr_cmp2 rfl (m32_of (by omega)) (m32_of (by omega)) (fun c1 => ?_) (fun c1 => ?_)
      · have c2 : (xs.length : Int) ≤ 3 := c1
        have h3 : ¬ 3 < xs.length := by omega
        rw [if_neg h3] at k ⊢
        have hb := hcb done (u :: rest) e (by omega)
        repeat (first | refine tr_mgr rfl (by decide) rfl ?_ | refine tr_mgi rfl (by decide) (by decide) rfl ?_ | refine tr_mv rfl (fun _ => rfl) ?_)
        refine tr_man (j := done.length) rfl (by omega) (by omega) rfl (fun _ => rfl) rfl rfl rfl ?_
        rw [mrow_app hR e]
        iterate 6 (refine tr_mv rfl (fun _ => rfl) ?_)
        show Tr Ls N 245 4 [some (mP (some 480)), some (mI (100 * cdL done + u + 1)), some (mI ((done.length : Int) + 1))] [] σ post
        rw [show (done.length : Int) + 1 = ((done ++ [u]).length : Int) by simp, show 100 * cdL done + u + 1 = cdL (done ++ [u]) by rw [cdL_snoc]; omega]
        exact k
      · have c2 : ¬ (xs.length : Int) ≤ 3 := c1
        have h3 : 3 < xs.length := by omega
        rw [if_pos h3] at k ⊢
        iterate 5 (refine tr_mv rfl (fun _ => rfl) ?_)
        show Tr Ls N 245 4 [some (mP (some 480)), some (mI 0), some (mI ((done.length : Int) + 1))] [] σ post
        rw [show (done.length : Int) + 1 = ((done ++ [u]).length : Int) by simp]
        exact k
  have g := loop xs [] rfl
  rw [show (if 3 < xs.length then (0 : Int) else cdL []) = 0 by split <;> rfl] at g
  iterate 4 (refine tr_mv rfl (fun _ => rfl) ?_)
  exact g
/-- a row is copied from an array -/
theorem s_247 (hA : mAn σ an) (hl : an.length ≤ 30) (h48 : ∀ x ∈ an, 0 ≤ x ∧ x < 48) (K : ∀ σ', mrow σ' an → only cRow σ σ' → post (.inl (some (mI (cdR an)))) σ') : Tr Ls N 247 0 [some (mP (some 480)), none] [] σ post := by
  have loop : ∀ (dd j : Nat) (σ' : Sg), j + dd = an.length → σ'.2 480 13 = (an.length : Int) → (∀ i, i < j → σ'.2 489 i = an.getD i 0) → only cRow σ σ' → Tr Ls N 247 22 [some (mP (some 480)), some (mI (j : Int))] [] σ' post := by
    intro dd
    induction dd with
    | zero =>
      intro j σ' e h13 hk ho
      have hR : mrow σ' an := ⟨h13, fun i hi => hk i (by omega), fun x hx => by have := h48 x hx; omega⟩
      repeat (first | refine tr_mgr rfl (by decide) rfl ?_ | refine tr_mgi rfl (by decide) (by decide) rfl ?_ | refine tr_mv rfl (fun _ => rfl) ?_)
      rw [h13]
      refine tr_cmp2 rfl (m32_of (by omega)) (m32_of (by omega)) (fun _ => ?_) (fun c9 => absurd (show (an.length : Int) ≤ (j : Int) by omega) c9)
      iterate 1 (refine tr_mv rfl (fun _ => rfl) ?_)
      refine tr_vc (q := 480) rfl isO_480 rfl rfl rfl (s_245 hR (by omega) h48 ?_)
      exact tr_ri rfl rfl (K σ' hR ho)
    | succ dd ih =>
      intro j σ' e h13 hk ho
      have hv : σ'.2 484 j = an.getD j 0 := (ho.2 _ _ (fun g => by have := cRow_in g; omega)).trans (hA.2.get0 (by omega))
      repeat (first | refine tr_mgr rfl (by decide) rfl ?_ | refine tr_mgi rfl (by decide) (by decide) rfl ?_ | refine tr_mv rfl (fun _ => rfl) ?_)
      rw [h13]
      refine tr_cmp2 rfl (m32_of (by omega)) (m32_of (by omega)) (fun c9 => absurd (show (an.length : Int) ≤ (j : Int) from c9) (by omega)) (fun _ => ?_)
      repeat (first | refine tr_mgr rfl (by decide) rfl ?_ | refine tr_mgi rfl (by decide) (by decide) rfl ?_ | refine tr_mv rfl (fun _ => rfl) ?_)
      refine tr_man (j := j) rfl (by omega) (by omega) rfl (fun _ => rfl) rfl rfl rfl ?_
      rw [hv]
      refine tr_msn (j := j) rfl (by omega) (by omega) rfl (fun _ => rfl) rfl rfl rfl ?_
      iterate 2 (refine tr_mv rfl (fun _ => rfl) ?_)
      show Tr Ls N 247 22 [some (mP (some 480)), some (mI ((j : Int) + 1))] [] _ post
      rw [show (j : Int) + 1 = ((j + 1 : Nat) : Int) by omega]
      refine ih (j + 1) _ (by omega) ((setF_ne _ _ (by omega)).trans h13) (fun i hi => ?_) (ho.setF (Or.inl rfl))
      rw [setF_get]
      by_cases g : i = j
      · rw [if_pos ⟨rfl, g⟩, g]
      · rw [if_neg (by omega)]
        exact hk i (by omega)
  have t17 : ∀ v : Int, v = (an.length : Int) → Tr Ls N 247 17 [some (mP (some 480)), none] [mI v, mP (some 480)] σ post := by
    intro v hv
    rw [hv]
    refine tr_mpi rfl (Or.inl rfl) (by decide) rfl ?_
    iterate 2 (refine tr_mv rfl (fun _ => rfl) ?_)
    exact loop an.length 0 _ (by omega) (setF_same ..) (fun i hi => absurd hi (Nat.not_lt_zero _)) (only.rf.setF (Or.inr ⟨rfl, rfl⟩))
  iterate 1 (refine tr_mv rfl (fun _ => rfl) ?_)
  repeat (first | refine tr_mgr rfl (by decide) rfl ?_ | refine tr_mgi rfl (by decide) (by decide) rfl ?_ | refine tr_mv rfl (fun _ => rfl) ?_)
  rcases hA.1 with ⟨g1, g2⟩ | ⟨g1, g2⟩
  · rw [g2]
    refine tr_cmp2 rfl (m32_of (x := -1) ⟨by decide, by decide⟩) (m32_of (x := -1) ⟨by decide, by decide⟩) (fun c1 => absurd rfl c1) (fun _ => ?_)
    iterate 2 (refine tr_mv rfl (fun _ => rfl) ?_)
    exact t17 0 (by rw [g1]; rfl)
  · rw [g2]
    refine tr_cmp2 rfl (m32_of (by omega)) (m32_of (x := -1) ⟨by decide, by decide⟩) (fun c1 => ?_) (fun c1 => absurd (show (an.length : Int) ≠ -1 by omega) c1)
    repeat (first | refine tr_mgr rfl (by decide) rfl ?_ | refine tr_mgi rfl (by decide) (by decide) rfl ?_ | refine tr_mv rfl (fun _ => rfl) ?_)
    rw [g2]
    exact t17 _ rfl
abbrev cCp (T q i : Nat) : Prop := cLs T q i ∨ cSv T q i ∨ cRu T q i
theorem s_249 (hT : T < 4) (hF : F < 4) (hne : F ≠ T) (hL : lsM F σ its lvs) (hll : lvs.length = its.length) (hl48 : its.length ≤ 48) (hS : svM F σ sv sg) (hsl : sg.length = sv.length) (hl12 : sv.length ≤ 12) (hR : ruM F σ hs ans is) (hrl : ans.length = hs.length ∧ is.length = hs.length) (hr12 : hs.length ≤ 12)
    (K : ∀ σ', lsM T σ' its lvs → svM T σ' sv sg → ruM T σ' hs ans is → only (cCp T) σ σ' → post (.inl none) σ') : Tr Ls N 249 0 [some (mP (some 480)), some (mI (F : Int)), some (mI (T : Int)), none] [] σ post := by
  have L2 : ∀ (dd j : Nat) (σ' : Sg), j + dd = 12 → lsM T σ' its lvs → σ'.2 498 T = (sv.length : Int) → σ'.2 502 T = (hs.length : Int) → (∀ q i, (q = 496 ∨ q = 497 ∨ q = 499 ∨ q = 500 ∨ q = 501) → i < j → σ'.2 q (12 * T + i) = σ.2 q (12 * F + i)) → only (cCp T) σ σ' → Tr Ls N 249 96 [some (mP (some 480)), some (mI (F : Int)), some (mI (T : Int)), some (mI (j : Int))] [] σ' post := by
    intro dd
    induction dd with
    | zero =>
      intro j σ' e z1 z2 z3 hk ho
      iterate 2 (refine tr_mv rfl (fun _ => rfl) ?_)
      refine tr_cmp2 rfl (m32_of (by omega)) (m32_of (x := 12) ⟨by decide, by decide⟩) (fun _ => ?_) (fun c9 => absurd (show (12 : Int) ≤ (j : Int) by omega) c9)
      refine tr_ret rfl (fun _ => rfl) (K σ' z1 ⟨z2, fun i hi => ?_, fun i hi => ?_⟩ ⟨z3, fun i hi => ?_, fun i hi => ?_, fun i hi => ?_⟩ ho)
      · rw [hk 496 i (by omega) (by omega)]; exact hS.2.1 i hi
      · rw [hk 497 i (by omega) (by omega)]; exact hS.2.2 i hi
      · rw [hk 501 i (by omega) (by omega)]; exact hR.2.1 i hi
      · rw [hk 499 i (by omega) (by omega)]; exact hR.2.2.1 i hi
      · rw [hk 500 i (by omega) (by omega)]; exact hR.2.2.2 i hi
    | succ dd ih =>
      intro j σ' e z1 z2 z3 hk ho
      have hj : j < 12 := by omega
      have rd : ∀ q, (q = 496 ∨ q = 497 ∨ q = 499 ∨ q = 500 ∨ q = 501) → σ'.2 q (12 * F + j) = σ.2 q (12 * F + j) := fun q hq => ho.2 _ _ (by omega)
      iterate 2 (refine tr_mv rfl (fun _ => rfl) ?_)
      refine tr_cmp2 rfl (m32_of (by omega)) (m32_of (x := 12) ⟨by decide, by decide⟩) (fun c9 => absurd (show (12 : Int) ≤ (j : Int) from c9) (by omega)) (fun _ => ?_)
      repeat (first | refine tr_mgr rfl (by decide) rfl ?_ | refine tr_mgi rfl (by decide) (by decide) rfl ?_ | refine tr_mv rfl (fun _ => rfl) ?_)
      refine tr_man (j := 12 * F + j) rfl (by omega) (by omega) rfl (fun _ => rfl) rfl rfl rfl ?_
      rw [rd 496 (by omega)]
      refine tr_msn (j := 12 * T + j) rfl (by omega) (by omega) rfl (fun _ => rfl) rfl rfl rfl ?_
      repeat (first | refine tr_mgr rfl (by decide) rfl ?_ | refine tr_mgi rfl (by decide) (by decide) rfl ?_ | refine tr_mv rfl (fun _ => rfl) ?_)
      refine tr_man (j := 12 * F + j) rfl (by omega) (by omega) rfl (fun _ => rfl) rfl rfl rfl ?_
      rw [setF_ne _ _ (by omega), rd 497 (by omega)]
      refine tr_msn (j := 12 * T + j) rfl (by omega) (by omega) rfl (fun _ => rfl) rfl rfl rfl ?_
      repeat (first | refine tr_mgr rfl (by decide) rfl ?_ | refine tr_mgi rfl (by decide) (by decide) rfl ?_ | refine tr_mv rfl (fun _ => rfl) ?_)
      refine tr_man (j := 12 * F + j) rfl (by omega) (by omega) rfl (fun _ => rfl) rfl rfl rfl ?_
      rw [setF_ne _ _ (by omega), setF_ne _ _ (by omega), rd 499 (by omega)]
      refine tr_msn (j := 12 * T + j) rfl (by omega) (by omega) rfl (fun _ => rfl) rfl rfl rfl ?_
      repeat (first | refine tr_mgr rfl (by decide) rfl ?_ | refine tr_mgi rfl (by decide) (by decide) rfl ?_ | refine tr_mv rfl (fun _ => rfl) ?_)
      refine tr_man (j := 12 * F + j) rfl (by omega) (by omega) rfl (fun _ => rfl) rfl rfl rfl ?_
      rw [setF_ne _ _ (by omega), setF_ne _ _ (by omega), setF_ne _ _ (by omega), rd 500 (by omega)]
      refine tr_msn (j := 12 * T + j) rfl (by omega) (by omega) rfl (fun _ => rfl) rfl rfl rfl ?_
      repeat (first | refine tr_mgr rfl (by decide) rfl ?_ | refine tr_mgi rfl (by decide) (by decide) rfl ?_ | refine tr_mv rfl (fun _ => rfl) ?_)
      refine tr_man (j := 12 * F + j) rfl (by omega) (by omega) rfl (fun _ => rfl) rfl rfl rfl ?_
      rw [setF_ne _ _ (by omega), setF_ne _ _ (by omega), setF_ne _ _ (by omega), setF_ne _ _ (by omega), rd 501 (by omega)]
      refine tr_msn (j := 12 * T + j) rfl (by omega) (by omega) rfl (fun _ => rfl) rfl rfl rfl ?_
      iterate 2 (refine tr_mv rfl (fun _ => rfl) ?_)
      obtain ⟨S, hS2⟩ : ∃ S, S = setF (setF (setF (setF (setF σ' 496 (12 * T + j) (σ.2 496 (12 * F + j))) 497 (12 * T + j) (σ.2 497 (12 * F + j))) 499 (12 * T + j) (σ.2 499 (12 * F + j))) 500 (12 * T + j) (σ.2 500 (12 * F + j))) 501 (12 * T + j) (σ.2 501 (12 * F + j)) := ⟨_, rfl⟩
      show Tr Ls N 249 96 [some (mP (some 480)), some (mI (F : Int)), some (mI (T : Int)), some (mI ((j : Int) + 1))] [] (setF (setF (setF (setF (setF σ' 496 (12 * T + j) (σ.2 496 (12 * F + j))) 497 (12 * T + j) (σ.2 497 (12 * F + j))) 499 (12 * T + j) (σ.2 499 (12 * F + j))) 500 (12 * T + j) (σ.2 500 (12 * F + j))) 501 (12 * T + j) (σ.2 501 (12 * F + j))) post
      rw [← hS2, show (j : Int) + 1 = ((j + 1 : Nat) : Int) by omega]
      have fo : ∀ q i, ¬ ((q = 496 ∨ q = 497 ∨ q = 499 ∨ q = 500 ∨ q = 501) ∧ i = 12 * T + j) → S.2 q i = σ'.2 q i := fun q i hq => by
        rw [hS2, setF_ne _ _ (by omega), setF_ne _ _ (by omega), setF_ne _ _ (by omega), setF_ne _ _ (by omega), setF_ne _ _ (by omega)]
      have fi : ∀ q, (q = 496 ∨ q = 497 ∨ q = 499 ∨ q = 500 ∨ q = 501) → S.2 q (12 * T + j) = σ.2 q (12 * F + j) := fun q hq => by
        rcases hq with rfl | rfl | rfl | rfl | rfl
        · rw [hS2, setF_ne _ _ (by omega), setF_ne _ _ (by omega), setF_ne _ _ (by omega), setF_ne _ _ (by omega), setF_same]
        · rw [hS2, setF_ne _ _ (by omega), setF_ne _ _ (by omega), setF_ne _ _ (by omega), setF_same]
        · rw [hS2, setF_ne _ _ (by omega), setF_ne _ _ (by omega), setF_same]
        · rw [hS2, setF_ne _ _ (by omega), setF_same]
        · rw [hS2, setF_same]
      have fr : S.1 = σ'.1 := by rw [hS2]; rfl
      have oS : only (fun q i => (q = 496 ∨ q = 497 ∨ q = 499 ∨ q = 500 ∨ q = 501) ∧ i = 12 * T + j) σ' S := ⟨fr, fun q i hq => fo q i hq⟩
      refine ih (j + 1) S (by omega) (z1.el oS (fun q i h1 h2 => by omega)) ((fo _ _ (by omega)).trans z2) ((fo _ _ (by omega)).trans z3) (fun q i hq hi => ?_) (ho.tr (oS.wk (fun q i h => by omega)))
      by_cases g : i = j
      · rw [g]
        exact fi q hq
      · rw [fo _ _ (by omega)]
        exact hk q i hq (by omega)
  have L1 : ∀ (dd j : Nat) (σ' : Sg), j + dd = 48 → σ'.2 492 T = (its.length : Int) → σ'.2 498 T = (sv.length : Int) → σ'.2 502 T = (hs.length : Int) → (∀ q i, (q = 490 ∨ q = 491) → i < j → σ'.2 q (48 * T + i) = σ.2 q (48 * F + i)) → only (cCp T) σ σ' → Tr Ls N 249 38 [some (mP (some 480)), some (mI (F : Int)), some (mI (T : Int)), some (mI (j : Int))] [] σ' post := by
    intro dd
    induction dd with
    | zero =>
      intro j σ' e z1 z2 z3 hk ho
      iterate 2 (refine tr_mv rfl (fun _ => rfl) ?_)
      refine tr_cmp2 rfl (m32_of (by omega)) (m32_of (x := 48) ⟨by decide, by decide⟩) (fun _ => ?_) (fun c9 => absurd (show (48 : Int) ≤ (j : Int) by omega) c9)
      iterate 2 (refine tr_mv rfl (fun _ => rfl) ?_)
      exact L2 12 0 σ' rfl ⟨z1, fun i hi => by rw [hk 490 i (by omega) (by omega)]; exact hL.2.1 i hi, fun i hi => by rw [hk 491 i (by omega) (by omega)]; exact hL.2.2 i hi⟩ z2 z3 (fun q i _ hi => absurd hi (Nat.not_lt_zero _)) ho
    | succ dd ih =>
      intro j σ' e z1 z2 z3 hk ho
      have hj : j < 48 := by omega
      have rd : ∀ q, (q = 490 ∨ q = 491) → σ'.2 q (48 * F + j) = σ.2 q (48 * F + j) := fun q hq => ho.2 _ _ (by omega)
      iterate 2 (refine tr_mv rfl (fun _ => rfl) ?_)
      refine tr_cmp2 rfl (m32_of (by omega)) (m32_of (x := 48) ⟨by decide, by decide⟩) (fun c9 => absurd (show (48 : Int) ≤ (j : Int) from c9) (by omega)) (fun _ => ?_)
      repeat (first | refine tr_mgr rfl (by decide) rfl ?_ | refine tr_mgi rfl (by decide) (by decide) rfl ?_ | refine tr_mv rfl (fun _ => rfl) ?_)
      refine tr_man (j := 48 * F + j) rfl (by omega) (by omega) rfl (fun _ => rfl) rfl rfl rfl ?_
      rw [rd 490 (by omega)]
      refine tr_msn (j := 48 * T + j) rfl (by omega) (by omega) rfl (fun _ => rfl) rfl rfl rfl ?_
      repeat (first | refine tr_mgr rfl (by decide) rfl ?_ | refine tr_mgi rfl (by decide) (by decide) rfl ?_ | refine tr_mv rfl (fun _ => rfl) ?_)
      refine tr_man (j := 48 * F + j) rfl (by omega) (by omega) rfl (fun _ => rfl) rfl rfl rfl ?_
      rw [setF_ne _ _ (by omega), rd 491 (by omega)]
      refine tr_msn (j := 48 * T + j) rfl (by omega) (by omega) rfl (fun _ => rfl) rfl rfl rfl ?_
      iterate 2 (refine tr_mv rfl (fun _ => rfl) ?_)
      obtain ⟨S, hS2⟩ : ∃ S, S = setF (setF σ' 490 (48 * T + j) (σ.2 490 (48 * F + j))) 491 (48 * T + j) (σ.2 491 (48 * F + j)) := ⟨_, rfl⟩
      show Tr Ls N 249 38 [some (mP (some 480)), some (mI (F : Int)), some (mI (T : Int)), some (mI ((j : Int) + 1))] [] (setF (setF σ' 490 (48 * T + j) (σ.2 490 (48 * F + j))) 491 (48 * T + j) (σ.2 491 (48 * F + j))) post
      rw [← hS2, show (j : Int) + 1 = ((j + 1 : Nat) : Int) by omega]
      have fo : ∀ q i, ¬ ((q = 490 ∨ q = 491) ∧ i = 48 * T + j) → S.2 q i = σ'.2 q i := fun q i hq => by
        rw [hS2, setF_ne _ _ (by omega), setF_ne _ _ (by omega)]
      have fi : ∀ q, (q = 490 ∨ q = 491) → S.2 q (48 * T + j) = σ.2 q (48 * F + j) := fun q hq => by
        rcases hq with rfl | rfl
        · rw [hS2, setF_ne _ _ (by omega), setF_same]
        · rw [hS2, setF_same]
      have fr : S.1 = σ'.1 := by rw [hS2]; rfl
      have oS : only (fun q i => (q = 490 ∨ q = 491) ∧ i = 48 * T + j) σ' S := ⟨fr, fun q i hq => fo q i hq⟩
      refine ih (j + 1) S (by omega) ((fo _ _ (by omega)).trans z1) ((fo _ _ (by omega)).trans z2) ((fo _ _ (by omega)).trans z3) (fun q i hq hi => ?_) (ho.tr (oS.wk (fun q i h => by omega)))
      by_cases g : i = j
      · rw [g]
        exact fi q hq
      · rw [fo _ _ (by omega)]
        exact hk q i hq (by omega)
  repeat (first | refine tr_mgr rfl (by decide) rfl ?_ | refine tr_mgi rfl (by decide) (by decide) rfl ?_ | refine tr_mv rfl (fun _ => rfl) ?_)
  refine tr_man (j := F) rfl (by omega) (by omega) rfl (fun _ => rfl) rfl rfl rfl ?_
  rw [hL.1]
  refine tr_msn (j := T) rfl (by omega) (by omega) rfl (fun _ => rfl) rfl rfl rfl ?_
  repeat (first | refine tr_mgr rfl (by decide) rfl ?_ | refine tr_mgi rfl (by decide) (by decide) rfl ?_ | refine tr_mv rfl (fun _ => rfl) ?_)
  refine tr_man (j := F) rfl (by omega) (by omega) rfl (fun _ => rfl) rfl rfl rfl ?_
  rw [setF_ne _ _ (by omega), hS.1]
  refine tr_msn (j := T) rfl (by omega) (by omega) rfl (fun _ => rfl) rfl rfl rfl ?_
  repeat (first | refine tr_mgr rfl (by decide) rfl ?_ | refine tr_mgi rfl (by decide) (by decide) rfl ?_ | refine tr_mv rfl (fun _ => rfl) ?_)
  refine tr_man (j := F) rfl (by omega) (by omega) rfl (fun _ => rfl) rfl rfl rfl ?_
  rw [setF_ne _ _ (by omega), setF_ne _ _ (by omega), hR.1]
  refine tr_msn (j := T) rfl (by omega) (by omega) rfl (fun _ => rfl) rfl rfl rfl ?_
  iterate 2 (refine tr_mv rfl (fun _ => rfl) ?_)
  refine L1 48 0 _ rfl ?_ ?_ ?_ (fun q i _ hi => absurd hi (Nat.not_lt_zero _)) (((only.rf.setF (by omega)).setF (by omega)).setF (by omega))
  · rw [setF_ne _ _ (by omega), setF_ne _ _ (by omega), setF_same]
  · rw [setF_ne _ _ (by omega), setF_same]
  · rw [setF_same]
end MCODE
