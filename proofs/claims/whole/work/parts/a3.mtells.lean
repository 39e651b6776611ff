/-! The model tells a rule. -/
theorem okTD.l32 {D : TD} (h : okTD D) : ∀ y ∈ D.2.1, in32 y := fun y hy => by
  have := h.2.2.2.2.2.2.1 y hy
  omega
abbrev cTq (T q i : Nat) : Prop := cLs T q i ∨ cSv T q i
section MTELLS
variable {Ls N k pc n n' nn b c t a q T kd w : Nat} {L L0 : mLs} {st r as : List mV} {h h' : mH} {σ σ' σ'' : Sg} {post : tP} {x y z x' y' i i' s v m how an it : Int} {xs ys its lvs sv sg hs is ans : List Int} {e : mE} {C : Nat → Nat → Prop} {D : TD}
theorem tellL_7 (g : how = 7) : tellL its lvs how an it = (itL its it, lvL its lvs it) := by
  unfold tellL
  rw [if_pos g]
theorem tellL_4 (g : how ≠ 7) (g4 : 4 ≤ how) (hp : (rplace (itL its it) an).toNat ≤ (itL its it).length) (hl : (itL its it).length < 48) (hll : (lvL its lvs it).length = (itL its it).length) : tellL its lvs how an it = ((itL its it).insertIdx (ahF (lvL its lvs it) (how - 4 + 1) (rplace (itL its it) an).toNat) it, ((lvL its lvs it).insertIdx (ahF (lvL its lvs it) (how - 4 + 1) (rplace (itL its it) an).toNat) ((lvL its lvs it).getD (ahF (lvL its lvs it) (how - 4 + 1) (rplace (itL its it) an).toNat) 0)).set (ahF (lvL its lvs it) (how - 4 + 1) (rplace (itL its it) an).toNat + 1) (how - 4 + 1)) := by
  have haf := ahF_le (lvL its lvs it) (how - 4 + 1) (rplace (itL its it) an).toNat
  unfold tellL
  rw [if_neg g, if_pos g4]
  generalize ahF (lvL its lvs it) (how - 4 + 1) (rplace (itL its it) an).toNat = a at *
  rw [rins_nat (by omega) (by omega), rins_nat (by omega) (by omega), show (a : Int) + 1 = ((a + 1 : Nat) : Int) by omega, rset_nat2]
theorem tellL_b (g : how ≠ 7) (g4 : ¬ 4 ≤ how) (hp : (rplace (itL its it) an).toNat < (itL its it).length) (hl : (itL its it).length < 48) (hll : (lvL its lvs it).length = (itL its it).length) : tellL its lvs how an it = ((itL its it).insertIdx (bhF (lvL its lvs it) (if how = 0 then 4 else how) ((itL its it).length - ((rplace (itL its it) an).toNat + 1)) ((rplace (itL its it) an).toNat + 1)) it, (lvL its lvs it).insertIdx (bhF (lvL its lvs it) (if how = 0 then 4 else how) ((itL its it).length - ((rplace (itL its it) an).toNat + 1)) ((rplace (itL its it) an).toNat + 1)) (if how = 0 then 4 else how)) := by
  have hbf := bhF_le (lvL its lvs it) (if how = 0 then 4 else how) ((itL its it).length - ((rplace (itL its it) an).toNat + 1)) ((rplace (itL its it) an).toNat + 1)
  unfold tellL
  rw [if_neg g, if_neg g4]
  generalize bhF (lvL its lvs it) (if how = 0 then 4 else how) ((itL its it).length - ((rplace (itL its it) an).toNat + 1)) ((rplace (itL its it) an).toNat + 1) = a at *
  rw [rins_nat (by omega) (by omega), rins_nat (by omega) (by omega)]
theorem s_244 (hT : T < 4) (hM : tqM T σ D) (hD : okTD D) (hR : ruM T σ hs ans is) (hrl : ans.length = hs.length ∧ is.length = hs.length) (hn : hs.length < 12) (hl : D.1.length < 48) (hl2 : D.2.2.1.length < 12) (hh : 0 ≤ how ∧ how ≤ 7) (hq : canTellQ D.1 D.2.2.2 hs.length how an it) (han : okCd an) (hit : okCd it)
    (K : ∀ σ', tlM T σ' (tellD D how an it) → ruM T σ' (hs ++ [how]) (ans ++ [an]) (is ++ [it]) → only (cTl T) σ σ' → post (.inl none) σ') :
    Tr Ls N 244 0 [some (mP (some 480)), some (mI (T : Int)), some (mI an), some (mI it), some (mI how)] [] σ post := by
  have hD' := okTD_tell hD hh hq han hit hl hl2
  have hlen := hD.1
  have hll := lvL_len hD.1 it
  have hitl : (itL D.1 it).length ≤ D.1.length := by
    unfold itL
    rw [rrem_len]
    split <;> omega
  obtain ⟨l7, l8⟩ : (∀ l ∈ lvL D.1 D.2.1 it, 1 ≤ l ∧ l ≤ 4) ∧ (lvL D.1 D.2.1 it).head? = some 1 := by
    refine lvL_ok hD.1 ?_ hD.2.2.2.2.2.2.1 hD.2.2.2.2.2.2.2.1 it
    have k1 := hD.2.2.2.2.2.2.2.2.2.2.2.2.1 29 (by decide) (by decide)
    have k2 := hD.2.2.2.2.2.2.2.2.2.2.2.2.1 30 (by decide) (by decide)
    have := sub_len (l1 := [29, 30]) (l2 := D.1) (by decide) (fun x hx => by
      rcases List.mem_cons.mp hx with g | g
      · rw [g]; exact k1
      · rw [List.mem_singleton.mp g]; exact k2)
    have h9 : ([29, 30] : List Int).length = 2 := rfl
    omega
  have hni : (itL D.1 it).Nodup := rrem_nodup hD.2.2.2.1 _
  have hi1 : ∀ y ∈ itL D.1 it, in32 y := fun y hy => hD.i32 y (rrem_sub hy)
  have hi2 : ∀ y ∈ lvL D.1 D.2.1 it, in32 y := fun y hy => by have := l7 y hy; omega
  have hsl := hD.2.2.2.2.2.1.1
  -- the rule is kept, weights
  have t104 : ∀ σ3, lsM T σ3 (tellD D how an it).1 (tellD D how an it).2.1 → svM T σ3 (tellD D how an it).2.2.1 (tellD D how an it).2.2.2 → only (cTq T) σ σ3 → Tr Ls N 244 104 [some (mP (some 480)), some (mI (T : Int)), some (mI an), some (mI it), some (mI how)] [] σ3 post := by
    intro σ3 z1 z2 z3
    have r502 : σ3.2 502 T = (hs.length : Int) := (z3.2 _ _ (by omega)).trans hR.1
    repeat (first | refine tr_mgr rfl (by decide) rfl ?_ | refine tr_mgi rfl (by decide) (by decide) rfl ?_ | refine tr_mv rfl (fun _ => rfl) ?_)
    refine tr_man (j := T) rfl (by omega) (by omega) rfl (fun _ => rfl) rfl rfl rfl ?_
    rw [r502]
    iterate 2 (refine tr_mv rfl (fun _ => rfl) ?_)
    refine tr_msn (j := 12 * T + ans.length) rfl (by omega) (by omega) rfl (fun _ => rfl) rfl rfl rfl ?_
    repeat (first | refine tr_mgr rfl (by decide) rfl ?_ | refine tr_mgi rfl (by decide) (by decide) rfl ?_ | refine tr_mv rfl (fun _ => rfl) ?_)
    refine tr_man (j := T) rfl (by omega) (by omega) rfl (fun _ => rfl) rfl rfl rfl ?_
    rw [setF_ne _ _ (by omega), r502]
    iterate 2 (refine tr_mv rfl (fun _ => rfl) ?_)
    refine tr_msn (j := 12 * T + is.length) rfl (by omega) (by omega) rfl (fun _ => rfl) rfl rfl rfl ?_
    repeat (first | refine tr_mgr rfl (by decide) rfl ?_ | refine tr_mgi rfl (by decide) (by decide) rfl ?_ | refine tr_mv rfl (fun _ => rfl) ?_)
    refine tr_man (j := T) rfl (by omega) (by omega) rfl (fun _ => rfl) rfl rfl rfl ?_
    rw [setF_ne _ _ (by omega), setF_ne _ _ (by omega), r502]
    iterate 2 (refine tr_mv rfl (fun _ => rfl) ?_)
    refine tr_msn (j := 12 * T + hs.length) rfl (by omega) (by omega) rfl (fun _ => rfl) rfl rfl rfl ?_
    repeat (first | refine tr_mgr rfl (by decide) rfl ?_ | refine tr_mgi rfl (by decide) (by decide) rfl ?_ | refine tr_mv rfl (fun _ => rfl) ?_)
    refine tr_man (j := T) rfl (by omega) (by omega) rfl (fun _ => rfl) rfl rfl rfl ?_
    rw [setF_ne _ _ (by omega), setF_ne _ _ (by omega), setF_ne _ _ (by omega), r502]
    iterate 2 (refine tr_mv rfl (fun _ => rfl) ?_)
    refine tr_msn (j := T) rfl (by omega) (by omega) rfl (fun _ => rfl) rfl rfl rfl ?_
    obtain ⟨S, hS⟩ : ∃ S, S = setF (setF (setF (setF σ3 499 (12 * T + ans.length) an) 500 (12 * T + is.length) it) 501 (12 * T + hs.length) how) 502 T ((hs.length : Int) + 1) := ⟨_, rfl⟩
    rw [← hS]
    have fr : S.1 = σ3.1 := by rw [hS]; rfl
    have f502 : S.2 502 T = (hs.length : Int) + 1 := by rw [hS, setF_same]
    have fo : ∀ q j : Nat, ¬ (q = 499 ∧ j = 12 * T + ans.length) → ¬ (q = 500 ∧ j = 12 * T + is.length) → ¬ (q = 501 ∧ j = 12 * T + hs.length) → ¬ (q = 502 ∧ j = T) → S.2 q j = σ3.2 q j := fun q j h1 h2 h3 h4 => by
      rw [hS, setF_ne _ _ h4, setF_ne _ _ h3, setF_ne _ _ h2, setF_ne _ _ h1]
    have oS : only (cRu T) σ3 S := ⟨fr, fun q j hq => fo q j (by omega) (by omega) (by omega) (by omega)⟩
    have f499 : ∀ j, S.2 499 j = (setF σ3 499 (12 * T + ans.length) an).2 499 j := fun j => by
      rw [hS, setF_ne _ _ (by omega), setF_ne _ _ (by omega), setF_ne _ _ (by omega)]
    have f500 : ∀ j, S.2 500 j = (setF σ3 500 (12 * T + is.length) it).2 500 j := fun j => by
      rw [hS, setF_ne _ _ (by omega), setF_ne _ _ (by omega)]
      exact setF_cong (fun j => setF_ne _ _ (by omega))
    have f501 : ∀ j, S.2 501 j = (setF σ3 501 (12 * T + hs.length) how).2 501 j := fun j => by
      rw [hS, setF_ne _ _ (by omega)]
      exact setF_cong (fun j => (setF_ne _ _ (by omega)).trans (setF_ne _ _ (by omega)))
    have hR3 : mseg σ3 501 (12 * T) hs ∧ mseg σ3 499 (12 * T) ans ∧ mseg σ3 500 (12 * T) is := ⟨hR.2.1.only z3 (fun i _ _ => by omega), hR.2.2.1.only z3 (fun i _ _ => by omega), hR.2.2.2.only z3 (fun i _ _ => by omega)⟩
    have ruS : ruM T S (hs ++ [how]) (ans ++ [an]) (is ++ [it]) := ⟨by rw [f502]; simp, (hR3.1.push (v := how)).keep (fun j _ _ => f501 j), (hR3.2.1.push (v := an)).keep (fun j _ _ => f499 j), (hR3.2.2.push (v := it)).keep (fun j _ _ => f500 j)⟩
    have lsS := z1.el oS (fun q i h1 h2 => by omega)
    have svS := z2.el oS (fun q i h1 h2 => by omega)
    have hl9 := hD'.1
    have hl8 := hD'.2.1
    iterate 2 (refine tr_mv rfl (fun _ => rfl) ?_)
    refine tr_vc (q := 480) rfl isO_480 rfl rfl rfl (s_234 hT (by rw [lsS.1]; omega) lsS.2.2 (by omega) hD'.2.2.2.2.2.2.1 hD'.2.2.2.2.2.2.2.1 (fun σ4 w1 w2 => ?_))
    refine tr_ret rfl (fun _ => rfl) (K σ4 ⟨⟨(w2.2 _ _ (by omega)).trans lsS.1, lsS.2.1.only w2 (fun i _ _ => by omega), lsS.2.2.only w2 (fun i _ _ => by omega)⟩, svS.el w2 (fun q i h1 h2 => by omega), w1⟩ ⟨(w2.2 _ _ (by omega)).trans ruS.1, ruS.2.1.only w2 (fun i _ _ => by omega), ruS.2.2.1.only w2 (fun i _ _ => by omega), ruS.2.2.2.only w2 (fun i _ _ => by omega)⟩ ((z3.wk (fun q i h => by omega)).tr ((oS.wk (fun q i h => by omega)).tr (w2.wk (fun q i h => by omega)))))
  iterate 3 (refine tr_mv rfl (fun _ => rfl) ?_)
  refine tr_vc (q := 480) rfl isO_480 rfl rfl rfl (s_235 hT (by omega) hM.1 hD.1 hD.2.1 hD.i32 hD.l32 hD.2.2.2.1 (fun σ1 l1 o1 => ?_))
  iterate 3 (refine tr_mv rfl (fun _ => rfl) ?_)
  refine tr_vc (q := 480) rfl isO_480 rfl rfl rfl (s_236 hT (by omega) (hM.2.el o1 (fun q i h1 h2 => by omega)) hsl hD.2.2.1 hD.s32 hD.2.2.2.2.1 (fun σ2 s2 o2 => ?_))
  have l2 : lsM T σ2 (itL D.1 it) (lvL D.1 D.2.1 it) := l1.el o2 (fun q i h1 h2 => by omega)
  have o12 : only (cTq T) σ σ2 := (o1.wk (fun q i h => Or.inl h)).tr (o2.wk (fun q i h => Or.inr h))
  have hrle : (rrem D.2.2.1 (rplace D.2.2.1 it)).length ≤ D.2.2.1.length := by
    rw [rrem_len]
    split <;> omega
  have hrle2 : (rrem D.2.2.2 (rplace D.2.2.1 it)).length = (rrem D.2.2.1 (rplace D.2.2.1 it)).length := by
    rw [rrem_len, rrem_len, hsl]
  iterate 2 (refine tr_mv rfl (fun _ => rfl) ?_)
  refine tr_cmp2 rfl (m32_of (by omega)) (m32_of (by omega)) (fun c1 => ?_) (fun c1 => ?_)
  · have c2 : ¬ how = 7 := c1
    have ham : an ∈ itL D.1 it := (rrem_mem hD.2.2.2.1 it an).mpr ⟨hq.2.2.2.2.2 c2, hq.2.2.1⟩
    have hpl : (rplace (itL D.1 it) an).toNat < (itL D.1 it).length := by
      rcases rplace_nat (itL D.1 it) an with ⟨-, g⟩ | ⟨p, g1, g2, -⟩
      · exact absurd ham g
      · rw [g1]; omega
    have sv2 : svM T σ2 (tellD D how an it).2.2.1 (tellD D how an it).2.2.2 := by
      show svM T σ2 (rrem D.2.2.1 (rplace D.2.2.1 it) ++ (if how = 7 then [it] else [])) (rrem D.2.2.2 (rplace D.2.2.1 it) ++ (if how = 7 then [an] else []))
      rw [if_neg c2, if_neg c2, List.append_nil, List.append_nil]
      exact s2
    iterate 2 (refine tr_mv rfl (fun _ => rfl) ?_)
    refine tr_cmp2 rfl (m32_of (by omega)) (m32_of (by omega)) (fun c3 => ?_) (fun c3 => ?_)
    · have c4 : how ≤ 3 := c3
      have eT := tellL_b (its := D.1) (lvs := D.2.1) (an := an) (it := it) c2 (by omega) hpl (by omega) hll
      have fin : ∀ z : Int, z = (if how = 0 then 4 else how) → Tr Ls N 244 101 [some (mP (some 480)), some (mI (T : Int)), some (mI an), some (mI it), some (mI how)] [mI z, mI it, mI an, mI (T : Int), mP (some 480)] σ2 post := by
        intro z hz
        refine tr_vc (q := 480) rfl isO_480 rfl rfl rfl (s_242 hT (by omega) (by rw [hz]; split <;> omega) l2 hll.symm (by omega) hi1 hi2 hni ham (fun σ3 w1 w2 => ?_))
        refine t104 σ3 ?_ (sv2.el w2 (fun q i h1 h2 => by omega)) (o12.tr (w2.wk (fun q i h => Or.inl h)))
        show lsM T σ3 (tellL D.1 D.2.1 how an it).1 (tellL D.1 D.2.1 how an it).2
        rw [eT, ← hz]
        exact w1
      iterate 5 (refine tr_mv rfl (fun _ => rfl) ?_)
      refine tr_if2 rfl (m32_of (by omega)) (fun c5 => ?_) (fun c5 => ?_)
      · have c6 : ¬ how = 0 := c5
        iterate 1 (refine tr_mv rfl (fun _ => rfl) ?_)
        exact fin how (by rw [if_neg c6])
      · have c6 : how = 0 := Decidable.of_not_not c5
        iterate 2 (refine tr_mv rfl (fun _ => rfl) ?_)
        exact fin 4 (by rw [if_pos c6])
    · have c4 : ¬ how ≤ 3 := c3
      have eT := tellL_4 (its := D.1) (lvs := D.2.1) (an := an) (it := it) c2 (by omega) (by omega) (by omega) hll
      iterate 7 (refine tr_mv rfl (fun _ => rfl) ?_)
      rw [show how - 3 = how - 4 + 1 by omega]
      refine tr_vc (q := 480) rfl isO_480 rfl rfl rfl (s_243 hT (by omega) (by omega) l2 hll.symm (by omega) hi1 hi2 hni ham l8 (fun σ3 w1 w2 => ?_))
      iterate 1 (refine tr_mv rfl (fun _ => rfl) ?_)
      refine t104 σ3 ?_ (sv2.el w2 (fun q i h1 h2 => by omega)) (o12.tr (w2.wk (fun q i h => Or.inl h)))
      show lsM T σ3 (tellL D.1 D.2.1 how an it).1 (tellL D.1 D.2.1 how an it).2
      rw [eT]
      exact w1
  · have c2 : how = 7 := Decidable.of_not_not c1
    have eT := tellL_7 (its := D.1) (lvs := D.2.1) (an := an) (it := it) c2
    generalize hsv1 : rrem D.2.2.1 (rplace D.2.2.1 it) = sv1 at *
    generalize hsg1 : rrem D.2.2.2 (rplace D.2.2.1 it) = sg1 at *
    repeat (first | refine tr_mgr rfl (by decide) rfl ?_ | refine tr_mgi rfl (by decide) (by decide) rfl ?_ | refine tr_mv rfl (fun _ => rfl) ?_)
    refine tr_man (j := T) rfl (by omega) (by omega) rfl (fun _ => rfl) rfl rfl rfl ?_
    rw [s2.1]
    iterate 2 (refine tr_mv rfl (fun _ => rfl) ?_)
    refine tr_msn (j := 12 * T + sv1.length) rfl (by omega) (by omega) rfl (fun _ => rfl) rfl rfl rfl ?_
    repeat (first | refine tr_mgr rfl (by decide) rfl ?_ | refine tr_mgi rfl (by decide) (by decide) rfl ?_ | refine tr_mv rfl (fun _ => rfl) ?_)
    refine tr_man (j := T) rfl (by omega) (by omega) rfl (fun _ => rfl) rfl rfl rfl ?_
    rw [setF_ne _ _ (by omega), s2.1]
    iterate 2 (refine tr_mv rfl (fun _ => rfl) ?_)
    refine tr_msn (j := 12 * T + sg1.length) rfl (by omega) (by omega) rfl (fun _ => rfl) rfl rfl rfl ?_
    repeat (first | refine tr_mgr rfl (by decide) rfl ?_ | refine tr_mgi rfl (by decide) (by decide) rfl ?_ | refine tr_mv rfl (fun _ => rfl) ?_)
    refine tr_man (j := T) rfl (by omega) (by omega) rfl (fun _ => rfl) rfl rfl rfl ?_
    rw [setF_ne _ _ (by omega), setF_ne _ _ (by omega), s2.1]
    iterate 2 (refine tr_mv rfl (fun _ => rfl) ?_)
    refine tr_msn (j := T) rfl (by omega) (by omega) rfl (fun _ => rfl) rfl rfl rfl ?_
    iterate 1 (refine tr_mv rfl (fun _ => rfl) ?_)
    obtain ⟨S, hS⟩ : ∃ S, S = setF (setF (setF σ2 496 (12 * T + sv1.length) it) 497 (12 * T + sg1.length) an) 498 T ((sv1.length : Int) + 1) := ⟨_, rfl⟩
    rw [← hS]
    have fr : S.1 = σ2.1 := by rw [hS]; rfl
    have f498 : S.2 498 T = (sv1.length : Int) + 1 := by rw [hS, setF_same]
    have fo : ∀ q j : Nat, ¬ (q = 496 ∧ j = 12 * T + sv1.length) → ¬ (q = 497 ∧ j = 12 * T + sg1.length) → ¬ (q = 498 ∧ j = T) → S.2 q j = σ2.2 q j := fun q j h1 h2 h3 => by
      rw [hS, setF_ne _ _ h3, setF_ne _ _ h2, setF_ne _ _ h1]
    have oS : only (cSv T) σ2 S := ⟨fr, fun q j hq => fo q j (by omega) (by omega) (by omega)⟩
    have f496 : ∀ j, S.2 496 j = (setF σ2 496 (12 * T + sv1.length) it).2 496 j := fun j => by
      rw [hS, setF_ne _ _ (by omega), setF_ne _ _ (by omega)]
    have f497 : ∀ j, S.2 497 j = (setF σ2 497 (12 * T + sg1.length) an).2 497 j := fun j => by
      rw [hS, setF_ne _ _ (by omega)]
      exact setF_cong (fun j => setF_ne _ _ (by omega))
    refine t104 S ?_ ?_ (o12.tr (oS.wk (fun q i h => Or.inr h)))
    · show lsM T S (tellL D.1 D.2.1 how an it).1 (tellL D.1 D.2.1 how an it).2
      rw [eT]
      exact l2.el oS (fun q i h1 h2 => by omega)
    · show svM T S (rrem D.2.2.1 (rplace D.2.2.1 it) ++ (if how = 7 then [it] else [])) (rrem D.2.2.2 (rplace D.2.2.1 it) ++ (if how = 7 then [an] else []))
      rw [if_pos c2, if_pos c2, hsv1, hsg1]
      exact ⟨by rw [f498]; simp, (s2.2.1.push (v := it)).keep (fun j _ _ => f496 j), (s2.2.2.push (v := an)).keep (fun j _ _ => f497 j)⟩
end MTELLS
