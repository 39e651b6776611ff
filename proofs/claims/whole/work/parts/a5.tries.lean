/-! All rules of a tailoring told in another one. -/
abbrev RuT : Type := List (Int × Int × Int)
abbrev rHs (R : RuT) : List Int := R.map (fun r => r.1)
abbrev rAs (R : RuT) : List Int := R.map (fun r => r.2.1)
abbrev rIs (R : RuT) : List Int := R.map (fun r => r.2.2)
def okRu (D : TD) (R : RuT) : Prop := R.length ≤ 12 ∧ D.1.length ≤ 36 + R.length ∧ D.2.2.1.length ≤ R.length ∧ ∀ r ∈ R, (0 ≤ r.1 ∧ r.1 ≤ 7) ∧ okCd r.2.1 ∧ okCd r.2.2
def tryL : TD → Nat → RuT → Option TD
  | D, _, [] => some D
  | D, n, r :: rs => if canTellP D.1 D.2.2.2 n r.1 r.2.1 r.2.2 then tryL (tellD D r.1 r.2.1 r.2.2) (n + 1) rs else none
theorem okRu_tell {D : TD} {R : RuT} (hD : okTD D) (hR : okRu D R) {how an it : Int} (hh : 0 ≤ how ∧ how ≤ 7) (hq : canTellQ D.1 D.2.2.2 R.length how an it) (han : okCd an) (hit : okCd it) : D.1.length < 48 ∧ D.2.2.1.length < 12 ∧ R.length < 12 ∧ okTD (tellD D how an it) ∧ okRu (tellD D how an it) (R ++ [(how, an, it)]) := by
  have q1 := hq.1
  have h1 : R.length < 12 := by omega
  have h2 : D.1.length < 48 := by have := hR.2.1; omega
  have h3 : D.2.2.1.length < 12 := by have := hR.2.2.1; omega
  have ha : how ≠ 7 → an ∈ itL D.1 it := fun g => (rrem_mem hD.2.2.2.1 it an).mpr ⟨hq.2.2.2.2.2 g, hq.2.2.1⟩
  have t := tell_ok hD hh h2 ha
  refine ⟨h2, h3, h1, okTD_tell hD hh hq han hit h2 h3, ?_, ?_, ?_, ?_⟩
  · rw [List.length_append, List.length_singleton]; omega
  · show (tellL D.1 D.2.1 how an it).1.length ≤ 36 + _
    rw [List.length_append, List.length_singleton]
    have := hR.2.1
    omega
  · show (rrem D.2.2.1 (rplace D.2.2.1 it) ++ (if how = 7 then [it] else [])).length ≤ _
    rw [List.length_append, List.length_append, List.length_singleton, rrem_len]
    have := hR.2.2.1
    split <;> split <;> simp only [List.length_singleton, List.length_nil] <;> omega
  · intro r hr
    rcases List.mem_append.mp hr with g | g
    · exact hR.2.2.2 r g
    · rw [List.mem_singleton.mp g]
      exact ⟨hh, han, hit⟩
/-- the rows of rules on the class's side -/
def cRl (t : Nat) (σ : Sg) (R : RuT) : Prop := σ.1 (t + 15) = rHs R ∧ σ.1 (t + 17) = rAs R ∧ σ.1 (t + 19) = rIs R
section TRIES
variable {Ls N k pc n n' nn b c t u a q T F kd w : Nat} {L L0 : mLs} {st r as : List mV} {h h' : mH} {σ σ' σ'' : Sg} {post : tP} {x y z x' y' i i' s v m how it an : Int} {xs ys its lvs sv sg hs is ans : List Int} {e : mE} {C : Nat → Nat → Prop} {D : TD} {R RF : RuT}
theorem s_250 (hM : tqM 3 σ D) (hD : okTD D) (hR : ruM 3 σ (rHs R) (rAs R) (rIs R)) (hok : okRu D R) (hF : F < 3) (hRF : ruM F σ (rHs RF) (rAs RF) (rIs RF)) (hF12 : RF.length ≤ 12) (hFk : ∀ r ∈ RF, (0 ≤ r.1 ∧ r.1 ≤ 7) ∧ okCd r.2.1 ∧ okCd r.2.2)
    (K1 : ∀ σ', tryL D R.length RF = none → only (cTl 3) σ σ' → post (.inl (some (mI 0))) σ')
    (K2 : ∀ σ' D', tryL D R.length RF = some D' → okTD D' → okRu D' (R ++ RF) → tqM 3 σ' D' → ruM 3 σ' (rHs (R ++ RF)) (rAs (R ++ RF)) (rIs (R ++ RF)) → only (cTl 3) σ σ' → post (.inl (some (mI 1))) σ') :
    Tr Ls N 250 0 [some (mP (some 480)), some (mI (F : Int)), none, none] [] σ post := by
  have loop : ∀ (rest done : RuT) (D1 : TD) (σ' : Sg), RF = done ++ rest → tqM 3 σ' D1 → okTD D1 → ruM 3 σ' (rHs (R ++ done)) (rAs (R ++ done)) (rIs (R ++ done)) → okRu D1 (R ++ done) → tryL D R.length RF = tryL D1 (R ++ done).length rest → only (cTl 3) σ σ' → Tr Ls N 250 7 [some (mP (some 480)), some (mI (F : Int)), some (mI 1), some (mI ((12 * F + done.length : Nat) : Int))] [] σ' post := by
    intro rest
    induction rest with
    | nil =>
      intro done D1 σ' e z1 z2 z3 z4 ht ho
      rw [List.append_nil] at e
      have e9 : RF.length = done.length := by rw [e]
      have hc : σ'.2 502 F = (RF.length : Int) := by rw [ho.2 _ _ (by omega), hRF.1, List.length_map]
      repeat (first | refine tr_mgr rfl (by decide) rfl ?_ | refine tr_mgi rfl (by decide) (by decide) rfl ?_ | refine tr_mv rfl (fun _ => rfl) ?_)
      refine tr_man (j := F) rfl (by omega) (by omega) rfl (fun _ => rfl) rfl rfl rfl ?_
      rw [hc]
      iterate 1 (refine tr_mv rfl (fun _ => rfl) ?_)
      refine tr_cmp2 rfl (m32_of (by omega)) (m32_of (by omega)) (fun _ => ?_) (fun c9 => absurd (show 12 * (F : Int) + (RF.length : Int) ≤ ((12 * F + done.length : Nat) : Int) by omega) c9)
      iterate 1 (refine tr_mv rfl (fun _ => rfl) ?_)
      refine tr_reti rfl (Or.inr (Or.inr rfl)) (K2 σ' D1 ht z2 ?_ z1 ?_ ho)
      · rw [e]; exact z4
      · rw [e]; exact z3
    | cons r0 rest ih =>
      intro done D1 σ' e z1 z2 z3 z4 ht ho
      have hlen := congrArg List.length e
      rw [List.length_append, List.length_cons] at hlen
      have hc : σ'.2 502 F = (RF.length : Int) := by rw [ho.2 _ _ (by omega), hRF.1, List.length_map]
      have hr0 := hFk r0 (by rw [e]; simp)
      have g499 : σ'.2 499 (12 * F + done.length) = r0.2.1 := by
        rw [ho.2 _ _ (by omega), hRF.2.2.1.get (by rw [List.length_map]; omega), e, rAs, List.map_append, List.map_cons, List.getD_eq_getElem?_getD, List.getElem?_append_right (by simp)]
        simp
      have g500 : σ'.2 500 (12 * F + done.length) = r0.2.2 := by
        rw [ho.2 _ _ (by omega), hRF.2.2.2.get (by rw [List.length_map]; omega), e, rIs, List.map_append, List.map_cons, List.getD_eq_getElem?_getD, List.getElem?_append_right (by simp)]
        simp
      have g501 : σ'.2 501 (12 * F + done.length) = r0.1 := by
        rw [ho.2 _ _ (by omega), hRF.2.1.get (by rw [List.length_map]; omega), e, rHs, List.map_append, List.map_cons, List.getD_eq_getElem?_getD, List.getElem?_append_right (by simp)]
        simp
      obtain ⟨how, an, it⟩ := r0
      obtain ⟨hh, han, hit⟩ : (0 ≤ how ∧ how ≤ 7) ∧ okCd an ∧ okCd it := hr0
      have g499 : σ'.2 499 (12 * F + done.length) = an := g499
      have g500 : σ'.2 500 (12 * F + done.length) = it := g500
      have g501 : σ'.2 501 (12 * F + done.length) = how := g501
      have hn3 : σ'.2 502 3 = ((R ++ done).length : Int) := by rw [z3.1, List.length_map]
      have htr : tryL D1 (R ++ done).length ((how, an, it) :: rest) = if canTellP D1.1 D1.2.2.2 (R ++ done).length how an it then tryL (tellD D1 how an it) ((R ++ done).length + 1) rest else none := rfl
      rw [htr] at ht
      repeat (first | refine tr_mgr rfl (by decide) rfl ?_ | refine tr_mgi rfl (by decide) (by decide) rfl ?_ | refine tr_mv rfl (fun _ => rfl) ?_)
      refine tr_man (j := F) rfl (by omega) (by omega) rfl (fun _ => rfl) rfl rfl rfl ?_
      rw [hc]
      iterate 1 (refine tr_mv rfl (fun _ => rfl) ?_)
      refine tr_cmp2 rfl (m32_of (by omega)) (m32_of (by omega)) (fun c9 => absurd (show 12 * (F : Int) + (RF.length : Int) ≤ ((12 * F + done.length : Nat) : Int) from c9) (by omega)) (fun _ => ?_)
      repeat (first | refine tr_mgr rfl (by decide) rfl ?_ | refine tr_mgi rfl (by decide) (by decide) rfl ?_ | refine tr_mv rfl (fun _ => rfl) ?_)
      refine tr_man (j := 12 * F + done.length) rfl (by omega) (by omega) rfl (fun _ => rfl) rfl rfl rfl ?_
      rw [g499]
      repeat (first | refine tr_mgr rfl (by decide) rfl ?_ | refine tr_mgi rfl (by decide) (by decide) rfl ?_ | refine tr_mv rfl (fun _ => rfl) ?_)
      refine tr_man (j := 12 * F + done.length) rfl (by omega) (by omega) rfl (fun _ => rfl) rfl rfl rfl ?_
      rw [g500]
      repeat (first | refine tr_mgr rfl (by decide) rfl ?_ | refine tr_mgi rfl (by decide) (by decide) rfl ?_ | refine tr_mv rfl (fun _ => rfl) ?_)
      refine tr_man (j := 12 * F + done.length) rfl (by omega) (by omega) rfl (fun _ => rfl) rfl rfl rfl ?_
      rw [g501]
      have ea : cdM an = an := by unfold cdM; rw [if_neg (by omega)]
      have ei : cdM it = it := by unfold cdM; rw [if_neg (by omega)]
      have t41 := s_241 (Ls := Ls) (N := 0) (σ := σ') (T := 3) (how := how) (an := an) (it := it) (n := (R ++ done).length) (post := tK Ls N 250 46 [some (mP (some 480)), some (mI (F : Int)), some (mI 1), some (mI ((12 * F + done.length : Nat) : Int))] [] post) (by decide) z1 z2 hn3 z4.1 (Or.inr han) (Or.inr hit) hh
      rw [ea, ei] at t41
      refine tr_vc (q := 480) rfl isO_480 rfl rfl rfl (t41 ?_)
      by_cases g1 : canTellP D1.1 D1.2.2.2 (R ++ done).length how an it
      · rw [if_pos g1] at ht
        rw [b2_pos g1]
        have hq := canTell_iff.mp g1
        obtain ⟨w1, w2, w3, w4, w5⟩ := okRu_tell z2 z4 hh hq han hit
        iterate 3 (refine tr_mv rfl (fun _ => rfl) ?_)
        repeat (first | refine tr_mgr rfl (by decide) rfl ?_ | refine tr_mgi rfl (by decide) (by decide) rfl ?_ | refine tr_mv rfl (fun _ => rfl) ?_)
        refine tr_man (j := 12 * F + done.length) rfl (by omega) (by omega) rfl (fun _ => rfl) rfl rfl rfl ?_
        rw [g499]
        repeat (first | refine tr_mgr rfl (by decide) rfl ?_ | refine tr_mgi rfl (by decide) (by decide) rfl ?_ | refine tr_mv rfl (fun _ => rfl) ?_)
        refine tr_man (j := 12 * F + done.length) rfl (by omega) (by omega) rfl (fun _ => rfl) rfl rfl rfl ?_
        rw [g500]
        repeat (first | refine tr_mgr rfl (by decide) rfl ?_ | refine tr_mgi rfl (by decide) (by decide) rfl ?_ | refine tr_mv rfl (fun _ => rfl) ?_)
        refine tr_man (j := 12 * F + done.length) rfl (by omega) (by omega) rfl (fun _ => rfl) rfl rfl rfl ?_
        rw [g501]
        refine tr_vc (q := 480) rfl isO_480 rfl rfl rfl (s_244 (T := 3) (by decide) z1 z2 z3 (by simp) (by rw [List.length_map]; exact w3) w1 w2 hh (by rw [List.length_map]; exact hq) han hit (fun σ2 y1 y2 y3 => ?_))
        iterate 2 (refine tr_mv rfl (fun _ => rfl) ?_)
        show Tr Ls N 250 7 [some (mP (some 480)), some (mI (F : Int)), some (mI 1), some (mI (((12 * F + done.length : Nat) : Int) + 1))] [] σ2 post
        rw [show ((12 * F + done.length : Nat) : Int) + 1 = ((12 * F + (done ++ [(how, an, it)]).length : Nat) : Int) by simp; omega]
        refine ih (done ++ [(how, an, it)]) (tellD D1 how an it) σ2 (by rw [e]; simp) ⟨y1.1, y1.2.1⟩ w4 ?_ (by rw [← List.append_assoc]; exact w5) (by rw [ht, ← List.append_assoc, List.length_append (bs := [(how, an, it)]), List.length_singleton]) (ho.tr y3)
        rw [← List.append_assoc, rHs, rAs, rIs, List.map_append (l₂ := [(how, an, it)]), List.map_append (l₂ := [(how, an, it)]), List.map_append (l₂ := [(how, an, it)])]
        exact y2
      · rw [if_neg g1] at ht
        rw [b2_neg g1]
        iterate 5 (refine tr_mv rfl (fun _ => rfl) ?_)
        repeat (first | refine tr_mgr rfl (by decide) rfl ?_ | refine tr_mgi rfl (by decide) (by decide) rfl ?_ | refine tr_mv rfl (fun _ => rfl) ?_)
        refine tr_man (j := F) rfl (by omega) (by omega) rfl (fun _ => rfl) rfl rfl rfl ?_
        rw [hc]
        iterate 1 (refine tr_mv rfl (fun _ => rfl) ?_)
        have k := K1 σ' ht ho
        have last : Tr Ls N 250 83 [some (mP (some 480)), some (mI (F : Int)), some (mI 0), some (mI (((12 * F + done.length : Nat) : Int) + 1))] [] σ' post := by
          iterate 1 (refine tr_mv rfl (fun _ => rfl) ?_)
          exact tr_reti rfl (Or.inr (Or.inl rfl)) k
        refine tr_cmp2 rfl (m32_of (by omega)) (m32_of (by omega)) (fun _ => ?_) (fun _ => ?_)
        · exact last
        · iterate 2 (refine tr_mv rfl (fun _ => rfl) ?_)
          exact last
  iterate 6 (refine tr_mv rfl (fun _ => rfl) ?_)
  have g := loop RF [] D σ rfl hM hD (by rw [List.append_nil]; exact hR) (by rw [List.append_nil]; exact hok) (by rw [List.append_nil]) only.rf
  rw [show ((12 * F + ([] : RuT).length : Nat) : Int) = 12 * (F : Int) by simp] at g
  exact g
end TRIES
