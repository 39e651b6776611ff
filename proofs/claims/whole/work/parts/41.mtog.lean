/-! Putting a row together: the model's. -/
section MTOG
variable {Ls N N1 N2 k pc n n' nn b c t a q : Nat} {L L0 : mLs} {st r as : List mV} {h h' : mH} {σ σ' σ'' : Sg} {post : tP} {x y z x' y' i i' s v m w : Int} {xs ys : List Int} {e : mE} {C : Nat → Nat → Prop} {B M : Int → Int}
theorem m228_loop (at0 : Int) : ∀ (post0 pre : List Int) (σ' : Sg), σ'.2 480 13 = ((pre.length + post0.length : Nat) : Int) → (∀ i, i < pre.length → σ'.2 489 i = pre.getD i 0) → (∀ i, i < post0.length → σ'.2 489 (pre.length + 1 + i) = post0.getD i 0) → (∀ x ∈ pre, in32 x) → (∀ x ∈ post0, in32 x) → pre.length + post0.length < 63 →
    (∀ σ'', mrow σ'' (pre ++ post0) → only cRow σ' σ'' → post (.inl none) σ'') → Tr Ls N 228 12 [some (mP (some 480)), some (mI at0), some (mI (pre.length : Int))] [] σ' post := by
  intro post0
  induction post0 with
  | nil =>
    intro pre σ' h1 h2 h3 h4 h5 hl K
    iterate 2 (refine tr_mv rfl (fun _ => rfl) ?_)
    refine tr_mgi rfl (by decide) (by decide) rfl ?_
    rw [h1]
    refine tr_cmp2 rfl (m32_of (by omega)) (m32_of (by omega)) (fun _ => ?_) (fun c1 => absurd (Int.le_refl _) c1)
    refine tr_ret rfl (fun _ => rfl) (K σ' ⟨?_, ?_, ?_⟩ only.rf)
    · rw [h1]; simp
    · simpa using h2
    · simpa using h4
  | cons y post0 ih =>
    intro pre σ' h1 h2 h3 h4 h5 hl K
    have hl2 : (y :: post0).length = post0.length + 1 := rfl
    have hy : σ'.2 489 (pre.length + 1) = y := h3 0 (by omega)
    iterate 2 (refine tr_mv rfl (fun _ => rfl) ?_)
    refine tr_mgi rfl (by decide) (by decide) rfl ?_
    rw [h1]
    refine tr_cmp2 rfl (m32_of (by omega)) (m32_of (by omega)) (fun c1 => absurd c1 (by show ¬ _ ≤ _; omega)) (fun _ => ?_)
    iterate 1 (refine tr_mv rfl (fun _ => rfl) ?_)
    refine tr_mgr rfl (by decide) rfl ?_
    iterate 2 (refine tr_mv rfl (fun _ => rfl) ?_)
    refine tr_mgr rfl (by decide) rfl ?_
    iterate 3 (refine tr_mv rfl (fun _ => rfl) ?_)
    refine tr_ma (i' := ((pre.length + 1 : Nat) : Int)) rfl (m32_of (by omega)) (by omega) rfl (fun _ => rfl) rfl rfl ?_
    rw [Int.toNat_natCast, hy]
    refine tr_ms rfl (m32_of (by omega)) (by omega) rfl (fun _ => rfl) rfl rfl ?_
    rw [Int.toNat_natCast]
    iterate 2 (refine tr_mv rfl (fun _ => rfl) ?_)
    show Tr Ls N 228 12 [some (mP (some 480)), some (mI at0), some (mI ((pre.length : Int) + 1))] [] _ post
    rw [show (pre.length : Int) + 1 = ((pre ++ [y]).length : Int) by simp]
    refine ih (pre ++ [y]) _ ?_ (fun i hi => ?_) (fun i hi => ?_) (fun z hz => ?_) (fun z hz => h5 z (List.mem_cons_of_mem _ hz)) (by simp; omega) (fun σ'' g1 g2 => K σ'' (by simpa using g1) ((only.rf.setF (Or.inl rfl)).tr g2))
    · show σ'.2 480 13 = _
      rw [h1]
      simp
      omega
    · have hi' : i < pre.length + 1 := by simpa using hi
      show mup σ'.2 489 pre.length y 489 i = _
      unfold mup
      rw [if_pos rfl, List.getD_eq_getElem?_getD]
      by_cases e : i = pre.length
      · rw [if_pos e, e]
        simp
      · rw [if_neg e, List.getElem?_append_left (by omega), h2 i (by omega), List.getD_eq_getElem?_getD]
    · show mup σ'.2 489 pre.length y 489 ((pre ++ [y]).length + 1 + i) = _
      have e9 : (pre ++ [y]).length = pre.length + 1 := by simp
      unfold mup
      rw [if_pos rfl, if_neg (by omega), e9, show pre.length + 1 + 1 + i = pre.length + 1 + (i + 1) by omega, h3 (i + 1) (by omega)]
      rfl
    · rcases List.mem_append.mp hz with g | g
      · exact h4 z g
      · rw [List.mem_singleton.mp g]; exact h5 y List.mem_cons_self
theorem s_228 {pre post0 : List Int} (hr : mrow σ (pre ++ x :: post0)) (hl : pre.length + post0.length < 63) (hi : i = (pre.length : Int)) (K : ∀ σ', mrow σ' (pre ++ post0) → only cRow σ σ' → post (.inl none) σ') : Tr Ls N 228 0 [some (mP (some 480)), some (mI i), none] [] σ post := by
  subst hi
  have hlen : (pre ++ x :: post0).length = pre.length + 1 + post0.length := by simp; omega
  iterate 2 (refine tr_mv rfl (fun _ => rfl) ?_)
  refine tr_mgi rfl (by decide) (by decide) rfl ?_
  rw [hr.1, hlen]
  iterate 2 (refine tr_mv rfl (fun _ => rfl) ?_)
  refine tr_mpi rfl (Or.inl rfl) (by decide) rfl ?_
  rw [show ((pre.length + 1 + post0.length : Nat) : Int) - 1 = ((pre.length + post0.length : Nat) : Int) by omega]
  iterate 2 (refine tr_mv rfl (fun _ => rfl) ?_)
  refine m228_loop _ post0 pre _ rfl (fun i hi => ?_) (fun i hi => ?_) (fun z hz => hr.2.2 z (by simp [hz])) (fun z hz => hr.2.2 z (by simp [hz])) hl (fun σ'' g1 g2 => K σ'' g1 ((only.rf.setF (Or.inr ⟨rfl, rfl⟩)).tr g2))
  · show σ.2 489 i = _
    rw [hr.2.1 i (by omega), List.getD_eq_getElem?_getD, List.getElem?_append_left hi, List.getD_eq_getElem?_getD]
  · show σ.2 489 (pre.length + 1 + i) = _
    rw [hr.2.1 _ (by omega), List.getD_eq_getElem?_getD, List.getElem?_append_right (by omega), show pre.length + 1 + i - pre.length = i + 1 by omega, List.getElem?_cons_succ, List.getD_eq_getElem?_getD]
theorem tog_stop (F : Int → Int → Int) {c mo : Int} {acc ms : List Int} (h : ∀ m ms', ms = m :: ms' → ¬ isMrk m) : tog F (some (c, mo, acc)) ms = (c :: acc) ++ tog F none ms := by
  cases ms with
  | nil => simp [tog]
  | cons m ms =>
    have h1 := h m ms rfl
    simp only [tog]
    rw [if_neg h1]
    split <;> rfl
theorem tog_skip (F : Int → Int → Int) : ∀ (acc : List Int) (ms : List Int), (∀ y ∈ acc, isMrk y) → tog F none (acc ++ ms) = acc ++ tog F none ms
  | [], ms, _ => rfl
  | y :: acc, ms, h => by
    have hy := h y List.mem_cons_self
    show tog F none (y :: (acc ++ ms)) = _
    simp only [tog]
    rw [if_neg (by omega), tog_skip F acc ms (fun z hz => h z (List.mem_cons_of_mem _ hz))]
    rfl
theorem m229_inner (hB : ∀ s, in32 (B s)) (hM : ∀ s, in32 (M s)) (hinj : injB B M) (done : List Int) : ∀ (ms : List Int) (c mo : Int) (acc : List Int) (σ' : Sg) (v4 : Option mV), bMo σ' = B → kMo σ' = M → mrow σ' (done ++ c :: (acc ++ ms)) → (0 ≤ c ∧ c < 48) → (isLet c ∨ 40 ≤ c) → 0 ≤ mo ∧ mo ≤ 3 → (∀ y ∈ acc, isMrk y) → done.length + acc.length + ms.length < 60 →
    (∀ σ'' c' acc' ms' at' mo' v', tog (cof B M) (some (c, mo, acc)) ms = (c' :: acc') ++ tog (cof B M) none ms' → acc'.length + ms'.length ≤ acc.length + ms.length → (∀ y ∈ acc', isMrk y) → (∀ y ∈ ms', y ∈ ms) → mrow σ'' (done ++ c' :: (acc' ++ ms')) → only cRow σ' σ'' → Tr Ls N 229 153 [some (mP (some 480)), some (mI (done.length : Int)), some (mI at'), some (mI mo'), v'] [] σ'' post) →
    Tr Ls N 229 16 [some (mP (some 480)), some (mI (done.length : Int)), some (mI ((done.length + 1 + acc.length : Nat) : Int)), some (mI mo), v4] [] σ' post := by
  intro ms
  induction ms with
  | nil =>
    intro c mo acc σ' v4 e1 e2 hr hc hlc hmo hacc hl K
    have ec : σ'.2 489 done.length = c := mrow_at hr rfl
    have K' := fun at' => K σ' c acc [] at' mo v4 (tog_stop _ (fun m ms' h => by cases h)) (Nat.le_refl _) hacc (fun y hy => hy) hr only.rf
    have hlen : (done ++ c :: (acc ++ [])).length = done.length + 1 + acc.length := by simp; omega
    have h43 : Tr Ls N 229 43 [some (mP (some 480)), some (mI (done.length : Int)), some (mI ((done.length + 1 + acc.length : Nat) : Int)), some (mI mo), v4] [] σ' post := by
      iterate 2 (refine tr_mv rfl (fun _ => rfl) ?_)
      refine tr_mgi rfl (by decide) (by decide) rfl ?_
      rw [hr.1, hlen]
      refine tr_cmp2 rfl (m32_of (by omega)) (m32_of (by omega)) (fun _ => ?_) (fun c1 => absurd (Int.le_refl _) c1)
      exact K' _
    iterate 1 (refine tr_mv rfl (fun _ => rfl) ?_)
    refine tr_mgr rfl (by decide) rfl ?_
    iterate 1 (refine tr_mv rfl (fun _ => rfl) ?_)
    refine tr_ma rfl (m32_of (by omega)) (by omega) rfl (fun _ => rfl) rfl rfl ?_
    rw [Int.toNat_natCast, ec]
    iterate 1 (refine tr_mv rfl (fun _ => rfl) ?_)
    refine tr_cmp2 rfl (m32_of (by omega)) (m32_of (by omega)) (fun c1 => ?_) (fun c1 => ?_)
    · iterate 1 (refine tr_mv rfl (fun _ => rfl) ?_)
      refine tr_mgr rfl (by decide) rfl ?_
      iterate 1 (refine tr_mv rfl (fun _ => rfl) ?_)
      refine tr_ma rfl (m32_of (by omega)) (by omega) rfl (fun _ => rfl) rfl rfl ?_
      rw [Int.toNat_natCast, ec]
      refine tr_stat rfl rfl rfl (s_213 (by omega) ?_)
      first | refine tr_ib rfl (fun c2 => ?_) (fun c2 => ?_) | refine tr_ibn rfl (fun c2 => ?_) (fun c2 => ?_)
      · exact K' _
      · exact h43
    · iterate 2 (refine tr_mv rfl (fun _ => rfl) ?_)
      refine tr_stat rfl rfl rfl (s_213 (x := 0) (by omega) ?_)
      first | refine tr_ib rfl (fun c2 => ?_) (fun c2 => ?_) | refine tr_ibn rfl (fun c2 => ?_) (fun c2 => ?_)
      · exact K' _
      · exact h43
  | cons m ms ih =>
    intro c mo acc σ' v4 e1 e2 hr hc hlc hmo hacc hl K
    have hl2 : (m :: ms).length = ms.length + 1 := rfl
    have ec : σ'.2 489 done.length = c := mrow_at hr rfl
    have hr2 : mrow σ' ((done ++ c :: acc) ++ m :: ms) := by simpa using hr
    have em : σ'.2 489 (done.length + 1 + acc.length) = m := mrow_at hr2 (by simp; omega)
    have hm : in32 m := hr.2.2 m (by simp)
    have hcm := clsOf_in m
    have hlen : (done ++ c :: (acc ++ m :: ms)).length = done.length + 1 + acc.length + 1 + ms.length := by simp; omega
    have h43 : Tr Ls N 229 43 [some (mP (some 480)), some (mI (done.length : Int)), some (mI ((done.length + 1 + acc.length : Nat) : Int)), some (mI mo), v4] [] σ' post := by
      iterate 2 (refine tr_mv rfl (fun _ => rfl) ?_)
      refine tr_mgi rfl (by decide) (by decide) rfl ?_
      rw [hr.1, hlen]
      refine tr_cmp2 rfl (m32_of (by omega)) (m32_of (by omega)) (fun c1 => absurd c1 (by show ¬ _ ≤ _; omega)) (fun _ => ?_)
      iterate 1 (refine tr_mv rfl (fun _ => rfl) ?_)
      refine tr_mgr rfl (by decide) rfl ?_
      iterate 1 (refine tr_mv rfl (fun _ => rfl) ?_)
      refine tr_ma rfl (m32_of (by omega)) (by omega) rfl (fun _ => rfl) rfl rfl ?_
      rw [Int.toNat_natCast, em]
      refine tr_stat rfl rfl rfl (s_212 hm ?_)
      first | refine tr_ib rfl (fun c2 => ?_) (fun c2 => ?_) | refine tr_ibn rfl (fun c2 => ?_) (fun c2 => ?_)
      · exact K σ' c acc (m :: ms) _ mo v4 (tog_stop _ (fun m' ms' h => by cases h; exact c2)) (Nat.le_refl _) hacc (fun y hy => hy) hr only.rf
      · have cm : clsOf m = if m < 26 then 1 else m - 24 := if_pos c2
        have etog : tog (cof B M) (some (c, mo, acc)) (m :: ms) = if mo < clsOf m ∧ cof B M c m ≠ -1 then tog (cof B M) (some (cof B M c m, mo, acc)) ms else tog (cof B M) (some (c, (if mo < clsOf m then clsOf m else mo), acc ++ [m])) ms := by
          simp only [tog]
          rw [if_pos c2]
        have h104 : ∀ v, ¬ (mo < clsOf m ∧ cof B M c m ≠ -1) → Tr Ls N 229 104 [some (mP (some 480)), some (mI (done.length : Int)), some (mI ((done.length + 1 + acc.length : Nat) : Int)), some (mI mo), some (mI v)] [] σ' post := by
          intro v hno
          rw [if_neg hno] at etog
          have hgo : ∀ mo2, mo2 = (if mo < clsOf m then clsOf m else mo) → Tr Ls N 229 130 [some (mP (some 480)), some (mI (done.length : Int)), some (mI ((done.length + 1 + acc.length : Nat) : Int)), some (mI mo), some (mI v)] [mI mo2] σ' post := by
            intro mo2 hmo2
            rw [← hmo2] at etog
            iterate 4 (refine tr_mv rfl (fun _ => rfl) ?_)
            show Tr Ls N 229 16 [some (mP (some 480)), some (mI (done.length : Int)), some (mI (((done.length + 1 + acc.length : Nat) : Int) + 1)), some (mI mo2), some (mI v)] [] σ' post
            rw [show ((done.length + 1 + acc.length : Nat) : Int) + 1 = ((done.length + 1 + (acc ++ [m]).length : Nat) : Int) by simp; omega]
            refine ih c mo2 (acc ++ [m]) σ' _ e1 e2 (by simpa using hr) hc hlc (by split at hmo2 <;> omega) (fun y hy => ?_) (by simp; omega) (fun σ'' c' acc' ms' at' mo' v' g1 g2 g3 g4 g5 g6 => K σ'' c' acc' ms' at' mo' v' (etog.trans g1) (by simp at g2 ⊢; omega) g3 (fun y hy => List.mem_cons_of_mem _ (g4 y hy)) g5 g6)
            rcases List.mem_append.mp hy with g | g
            · exact hacc y g
            · rw [List.mem_singleton.mp g]; exact c2
          iterate 1 (refine tr_mv rfl (fun _ => rfl) ?_)
          refine tr_mgr rfl (by decide) rfl ?_
          iterate 1 (refine tr_mv rfl (fun _ => rfl) ?_)
          refine tr_ma rfl (m32_of (by omega)) (by omega) rfl (fun _ => rfl) rfl rfl ?_
          rw [Int.toNat_natCast, em]
          refine tr_stat rfl rfl rfl (s_215 hm ?_)
          iterate 1 (refine tr_mv rfl (fun _ => rfl) ?_)
          refine tr_cmp2 rfl (m32_of (by omega)) (m32_of (by omega)) (fun c3 => ?_) (fun c3 => ?_)
          · iterate 1 (refine tr_mv rfl (fun _ => rfl) ?_)
            exact hgo mo (by rw [if_neg (by omega)])
          · iterate 1 (refine tr_mv rfl (fun _ => rfl) ?_)
            refine tr_mgr rfl (by decide) rfl ?_
            iterate 1 (refine tr_mv rfl (fun _ => rfl) ?_)
            refine tr_ma rfl (m32_of (by omega)) (by omega) rfl (fun _ => rfl) rfl rfl ?_
            rw [Int.toNat_natCast, em]
            refine tr_stat rfl rfl rfl (s_215 hm ?_)
            iterate 1 (refine tr_mv rfl (fun _ => rfl) ?_)
            exact hgo _ (by rw [← cm, if_pos (by omega)])
        iterate 1 (refine tr_mv rfl (fun _ => rfl) ?_)
        refine tr_mgr rfl (by decide) rfl ?_
        iterate 1 (refine tr_mv rfl (fun _ => rfl) ?_)
        refine tr_ma rfl (m32_of (by omega)) (by omega) rfl (fun _ => rfl) rfl rfl ?_
        rw [Int.toNat_natCast, em]
        refine tr_stat rfl rfl rfl (s_215 hm ?_)
        iterate 1 (refine tr_mv rfl (fun _ => rfl) ?_)
        refine tr_cmp2 rfl (m32_of (by omega)) (m32_of (by omega)) (fun c3 => ?_) (fun c3 => ?_)
        · iterate 2 (refine tr_mv rfl (fun _ => rfl) ?_)
          refine tr_mgr rfl (by decide) rfl ?_
          iterate 1 (refine tr_mv rfl (fun _ => rfl) ?_)
          refine tr_ma rfl (m32_of (by omega)) (by omega) rfl (fun _ => rfl) rfl rfl ?_
          rw [Int.toNat_natCast, ec]
          iterate 1 (refine tr_mv rfl (fun _ => rfl) ?_)
          refine tr_mgr rfl (by decide) rfl ?_
          iterate 1 (refine tr_mv rfl (fun _ => rfl) ?_)
          refine tr_ma rfl (m32_of (by omega)) (by omega) rfl (fun _ => rfl) rfl rfl ?_
          rw [Int.toNat_natCast, em]
          refine tr_vc (q := 480) rfl isO_480 rfl rfl rfl (s_221 (by omega) (by omega) hm (by rw [e1]; exact hB) (by rw [e2]; exact hM) (by rw [e1, e2]; exact hinj) ?_)
          rw [e1, e2]
          have hF := cof_or B M c m
          iterate 3 (refine tr_mv rfl (fun _ => rfl) ?_)
          refine tr_cmp2 rfl (m32_of (by omega)) (m32_of (by omega)) (fun c4 => ?_) (fun c4 => ?_)
          · have c4' : cof B M c m ≠ -1 := c4
            rw [if_pos ⟨by omega, c4'⟩] at etog
            iterate 1 (refine tr_mv rfl (fun _ => rfl) ?_)
            refine tr_mgr rfl (by decide) rfl ?_
            iterate 2 (refine tr_mv rfl (fun _ => rfl) ?_)
            refine tr_ms rfl (m32_of (by omega)) (by omega) rfl (fun _ => rfl) rfl rfl ?_
            rw [Int.toNat_natCast]
            iterate 2 (refine tr_mv rfl (fun _ => rfl) ?_)
            have hr3 := mrow_set hr (j := done.length) (v := cof B M c m) (by omega) (by omega)
            rw [show (done ++ c :: (acc ++ m :: ms)).set done.length (cof B M c m) = (done ++ cof B M c m :: acc) ++ m :: ms by simp] at hr3
            refine tr_vc (q := 480) rfl isO_480 rfl rfl rfl (s_228 hr3 (by simp; omega) (by simp; omega) (fun σ2 g1 g2 => ?_))
            iterate 1 (refine tr_mv rfl (fun _ => rfl) ?_)
            have g3 : only cRow σ' σ2 := (only.rf.setF (Or.inl rfl)).tr g2
            refine ih (cof B M c m) mo acc σ2 _ (by rw [bMo_only g3]; exact e1) (by rw [kMo_only g3]; exact e2) (by simpa using g1) (by omega) (Or.inr (by omega)) hmo hacc (by omega) (fun σ'' c' acc' ms' at' mo' v' k1 k2 k3 k4 k5 k6 => K σ'' c' acc' ms' at' mo' v' (etog.trans k1) (by omega) k3 (fun y hy => List.mem_cons_of_mem _ (k4 y hy)) k5 (g3.tr k6))
          · exact h104 _ (fun g => c4 g.2)
        · iterate 5 (refine tr_mv rfl (fun _ => rfl) ?_)
          refine tr_cmp2 rfl (m32_of (x := -1) ⟨by decide, by decide⟩) (m32_of (x := -1) ⟨by decide, by decide⟩) (fun c9 => absurd rfl (show ¬ ((-1 : Int) = -1) from c9)) (fun _ => ?_)
          exact h104 _ (fun g => by omega)
    iterate 1 (refine tr_mv rfl (fun _ => rfl) ?_)
    refine tr_mgr rfl (by decide) rfl ?_
    iterate 1 (refine tr_mv rfl (fun _ => rfl) ?_)
    refine tr_ma rfl (m32_of (by omega)) (by omega) rfl (fun _ => rfl) rfl rfl ?_
    rw [Int.toNat_natCast, ec]
    iterate 1 (refine tr_mv rfl (fun _ => rfl) ?_)
    refine tr_cmp2 rfl (m32_of (by omega)) (m32_of (by omega)) (fun c1 => ?_) (fun c1 => ?_)
    · iterate 1 (refine tr_mv rfl (fun _ => rfl) ?_)
      refine tr_mgr rfl (by decide) rfl ?_
      iterate 1 (refine tr_mv rfl (fun _ => rfl) ?_)
      refine tr_ma rfl (m32_of (by omega)) (by omega) rfl (fun _ => rfl) rfl rfl ?_
      rw [Int.toNat_natCast, ec]
      refine tr_stat rfl rfl rfl (s_213 (by omega) ?_)
      first | refine tr_ib rfl (fun c2 => ?_) (fun c2 => ?_) | refine tr_ibn rfl (fun c2 => ?_) (fun c2 => ?_)
      · exact absurd hlc (by omega)
      · exact h43
    · iterate 2 (refine tr_mv rfl (fun _ => rfl) ?_)
      refine tr_stat rfl rfl rfl (s_213 (x := 0) (by omega) ?_)
      first | refine tr_ib rfl (fun c2 => ?_) (fun c2 => ?_) | refine tr_ibn rfl (fun c2 => ?_) (fun c2 => ?_)
      · exact absurd c2 (by omega)
      · exact h43
theorem m229_outer (hB : ∀ s, in32 (B s)) (hM : ∀ s, in32 (M s)) (hinj : injB B M) : ∀ (N0 : Nat) (rest done : List Int) (σ' : Sg) (v2 v3 v4 : Option mV), rest.length ≤ N0 → bMo σ' = B → kMo σ' = M → mrow σ' (done ++ rest) → (∀ y ∈ rest, 0 ≤ y ∧ y < 40) → done.length + rest.length < 60 →
    (∀ σ'', mrow σ'' (done ++ tog (cof B M) none rest) → only cRow σ' σ'' → post (.inl none) σ'') → Tr Ls N 229 2 [some (mP (some 480)), some (mI (done.length : Int)), v2, v3, v4] [] σ' post := by
  intro N0
  induction N0 with
  | zero =>
    intro rest done σ' v2 v3 v4 hN e1 e2 hr hy hl K
    obtain rfl : rest = [] := List.eq_nil_of_length_eq_zero (by omega)
    rw [List.append_nil] at hr
    iterate 2 (refine tr_mv rfl (fun _ => rfl) ?_)
    refine tr_mgi rfl (by decide) (by decide) rfl ?_
    rw [hr.1]
    refine tr_cmp2 rfl (m32_of (by omega)) (m32_of (by omega)) (fun _ => ?_) (fun c1 => absurd (Int.le_refl _) c1)
    exact tr_ret rfl (fun _ => rfl) (K σ' (by simpa [tog] using hr) only.rf)
  | succ N0 ihN =>
    intro rest done σ' v2 v3 v4 hN e1 e2 hr hy hl K
    cases rest with
    | nil =>
      rw [List.append_nil] at hr
      iterate 2 (refine tr_mv rfl (fun _ => rfl) ?_)
      refine tr_mgi rfl (by decide) (by decide) rfl ?_
      rw [hr.1]
      refine tr_cmp2 rfl (m32_of (by omega)) (m32_of (by omega)) (fun _ => ?_) (fun c1 => absurd (Int.le_refl _) c1)
      exact tr_ret rfl (fun _ => rfl) (K σ' (by simpa [tog] using hr) only.rf)
    | cons x rest =>
      have hl2 : (x :: rest).length = rest.length + 1 := rfl
      have hlen : (done ++ x :: rest).length = done.length + 1 + rest.length := by simp; omega
      have hx := hy x List.mem_cons_self
      have ec : σ'.2 489 done.length = x := mrow_at hr rfl
      iterate 2 (refine tr_mv rfl (fun _ => rfl) ?_)
      refine tr_mgi rfl (by decide) (by decide) rfl ?_
      rw [hr.1, hlen]
      refine tr_cmp2 rfl (m32_of (by omega)) (m32_of (by omega)) (fun c1 => absurd c1 (by show ¬ _ ≤ _; omega)) (fun _ => ?_)
      have hnext : ∀ (σ'' : Sg) (c' : Int) (rest' : List Int) (a2 a3 : Int) (v' : Option mV), rest'.length ≤ rest.length → (∀ y ∈ rest', 0 ≤ y ∧ y < 40) → mrow σ'' (done ++ c' :: rest') → only cRow σ' σ'' → tog (cof B M) none (x :: rest) = c' :: tog (cof B M) none rest' → Tr Ls N 229 153 [some (mP (some 480)), some (mI (done.length : Int)), some (mI a2), some (mI a3), v'] [] σ'' post := by
        intro σ'' c' rest' a2 a3 v' g1 g2 g3 g4 g5
        iterate 2 (refine tr_mv rfl (fun _ => rfl) ?_)
        show Tr Ls N 229 2 [some (mP (some 480)), some (mI ((done.length : Int) + 1)), some (mI a2), some (mI a3), v'] [] σ'' post
        rw [show (done.length : Int) + 1 = ((done ++ [c']).length : Int) by simp]
        refine ihN rest' (done ++ [c']) σ'' _ _ _ (by omega) (by rw [bMo_only g4]; exact e1) (by rw [kMo_only g4]; exact e2) (by simpa using g3) g2 (by simp; omega) (fun σ3 k1 k2 => K σ3 ?_ (g4.tr k2))
        rw [g5]
        simpa using k1
      iterate 6 (refine tr_mv rfl (fun _ => rfl) ?_)
      by_cases hlx : isLet x
      · have h9 := m229_inner (Ls := Ls) (N := N) (post := post) hB hM hinj done rest x 0 [] σ' v4 e1 e2 hr (by omega) (Or.inl hlx) (by omega) (fun y hy => absurd hy List.not_mem_nil) (by simp; omega) (fun σ'' c' acc' ms' at' mo' v' g1 g2 g3 g4 g5 g6 => by
          refine hnext σ'' c' (acc' ++ ms') at' mo' v' (by simp at g2 ⊢; omega) (fun y hyy => ?_) g5 g6 ?_
          · rcases List.mem_append.mp hyy with g | g
            · have := g3 y g; omega
            · exact hy y (List.mem_cons_of_mem _ (g4 y g))
          · rw [tog_skip _ acc' ms' g3]
            simp only [tog]
            rw [if_pos hlx, g1]
            rfl)
        rw [show (((done.length + 1 + ([] : List Int).length : Nat)) : Int) = (done.length : Int) + 1 by simp] at h9
        exact h9
      · iterate 1 (refine tr_mv rfl (fun _ => rfl) ?_)
        refine tr_mgr rfl (by decide) rfl ?_
        iterate 1 (refine tr_mv rfl (fun _ => rfl) ?_)
        refine tr_ma rfl (m32_of (by omega)) (by omega) rfl (fun _ => rfl) rfl rfl ?_
        rw [Int.toNat_natCast, ec]
        iterate 1 (refine tr_mv rfl (fun _ => rfl) ?_)
        refine tr_cmp2 rfl (m32_of (by omega)) (m32_of (by omega)) (fun c1 => ?_) (fun c1 => ?_)
        · iterate 1 (refine tr_mv rfl (fun _ => rfl) ?_)
          refine tr_mgr rfl (by decide) rfl ?_
          iterate 1 (refine tr_mv rfl (fun _ => rfl) ?_)
          refine tr_ma rfl (m32_of (by omega)) (by omega) rfl (fun _ => rfl) rfl rfl ?_
          rw [Int.toNat_natCast, ec]
          refine tr_stat rfl rfl rfl (s_213 (by omega) ?_)
          first | refine tr_ib rfl (fun c2 => ?_) (fun c2 => ?_) | refine tr_ibn rfl (fun c2 => ?_) (fun c2 => ?_)
          · refine hnext σ' x rest _ _ _ (Nat.le_refl _) (fun y hyy => hy y (List.mem_cons_of_mem _ hyy)) hr only.rf ?_
            simp only [tog]
            rw [if_neg hlx]
          · exact absurd c2 hlx
        · exact absurd (show x < 40 by omega) c1
theorem s_229 (hB : ∀ s, in32 (bMo σ s)) (hM : ∀ s, in32 (kMo σ s)) (hinj : injB (bMo σ) (kMo σ)) (hr : mrow σ xs) (hy : ∀ y ∈ xs, 0 ≤ y ∧ y < 40) (hl : xs.length < 60) (K : ∀ σ', mrow σ' (tog (cof (bMo σ) (kMo σ)) none xs) → only cRow σ σ' → post (.inl none) σ') :
    Tr Ls N 229 0 [some (mP (some 480)), none, none, none, none] [] σ post := by
  iterate 2 (refine tr_mv rfl (fun _ => rfl) ?_)
  exact m229_outer hB hM hinj xs.length xs [] σ none none none (Nat.le_refl _) rfl rfl hr hy (by simpa using hl) K
end MTOG
