/-! The class Tailoring: a rule told. -/
def tellL (its lvs : List Int) (how an it : Int) : List Int × List Int :=
  if how = 7 then (itL its it, lvL its lvs it)
  else if 4 ≤ how then (rins 48 (itL its it) (ahF (lvL its lvs it) (how - 4 + 1) (rplace (itL its it) an).toNat) it,
    rset (rins 48 (lvL its lvs it) (ahF (lvL its lvs it) (how - 4 + 1) (rplace (itL its it) an).toNat) ((lvL its lvs it).getD (ahF (lvL its lvs it) (how - 4 + 1) (rplace (itL its it) an).toNat) 0)) ((ahF (lvL its lvs it) (how - 4 + 1) (rplace (itL its it) an).toNat : Nat) + 1) (how - 4 + 1))
  else (rins 48 (itL its it) (bhF (lvL its lvs it) (if how = 0 then 4 else how) ((itL its it).length - ((rplace (itL its it) an).toNat + 1)) ((rplace (itL its it) an).toNat + 1)) it,
    rins 48 (lvL its lvs it) (bhF (lvL its lvs it) (if how = 0 then 4 else how) ((itL its it).length - ((rplace (itL its it) an).toNat + 1)) ((rplace (itL its it) an).toNat + 1)) (if how = 0 then 4 else how))
section TELL2
variable {Ls N N1 N2 k pc n n' nn b c t u a q : Nat} {L L0 : mLs} {st r as : List mV} {h h' : mH} {σ σ' σ'' : Sg} {post : tP} {x y z x' y' i i' s v m w how an it : Int} {xs ys its lvs : List Int} {e : mE} {C : Nat → Nat → Prop} {B M : Int → Int} {R : Nat → Prop}
theorem rrem_len (xs : List Int) (i : Int) : (rrem xs i).length = if 0 ≤ i ∧ i < xs.length then xs.length - 1 else xs.length := by
  unfold rrem
  split
  · exact List.length_eraseIdx_of_lt (by omega)
  · rfl
theorem rset_len (xs : List Int) (i v : Int) : (rset xs i v).length = xs.length := by
  unfold rset
  split
  · exact List.length_set
  · rfl
theorem lvL_len (hl : its.length = lvs.length) (x : Int) : (lvL its lvs x).length = (itL its x).length := by
  unfold lvL itL
  by_cases e : rplace its x = -1
  · rw [if_pos e, rrem_len, if_neg (by omega), hl]
  · rw [if_neg e, rrem_len, rrem_len, rset_len, hl]
theorem s_124 (ht : isT t) (hx : in32 x) (hy : in32 y) (hlv : in32 v) (hm : y ∈ σ.1 (t + 1)) (hl : (σ.1 (t + 3)).length = (σ.1 (t + 1)).length) (hl2 : (σ.1 (t + 1)).length < 48) (K : ∀ p, rplace (σ.1 (t + 1)) y = ((p : Nat) : Int) → post (.inl none) (setR (setR σ (t + 1) (rins 48 (σ.1 (t + 1)) (ahF (σ.1 (t + 3)) v p) x)) (t + 3) (rset (rins 48 (σ.1 (t + 3)) (ahF (σ.1 (t + 3)) v p) ((σ.1 (t + 3)).getD (ahF (σ.1 (t + 3)) v p) 0)) (ahF (σ.1 (t + 3)) v p + 1) v))) :
    Tr Ls N 124 0 [some (mP (some t)), some (mI x), some (mI y), some (mI v), none] [] σ post := by
  refine tr_fact fun ⟨h0, hr⟩ => ?_
  rcases rplace_in (T_r0 ht) hr y with g | g
  · exact absurd hm g.2
  · obtain ⟨p, hp⟩ : ∃ p : Nat, rplace (σ.1 (t + 1)) y = p := ⟨(rplace (σ.1 (t + 1)) y).toNat, by omega⟩
    iterate 1 (refine tr_mv rfl (fun _ => rfl) ?_)
    refine tr_gr rfl (T_O ht) (by decide) (T_p0 ht) ?_
    iterate 1 (refine tr_mv rfl (fun _ => rfl) ?_)
    refine tr_placeOf (T_r0 ht) hy rfl rfl ?_
    rw [hp]
    iterate 1 (refine tr_mv rfl (fun _ => rfl) ?_)
    exact s_124_loop ht hx hlv p σ (by omega) hl hl2 (K p hp)
/-- what a told rule leaves -/
def toldR (t : Nat) (σ σ' : Sg) (how an it : Int) : Prop := onlyR (rT t) σ σ' ∧
  σ'.1 (t + 1) = (tellL (σ.1 (t + 1)) (σ.1 (t + 3)) how an it).1 ∧ σ'.1 (t + 3) = (tellL (σ.1 (t + 1)) (σ.1 (t + 3)) how an it).2 ∧
  σ'.1 (t + 11) = rrem (σ.1 (t + 11)) (rplace (σ.1 (t + 11)) it) ++ (if how = 7 then [it] else []) ∧ σ'.1 (t + 13) = rrem (σ.1 (t + 13)) (rplace (σ.1 (t + 11)) it) ++ (if how = 7 then [an] else []) ∧
  σ'.1 (t + 15) = σ.1 (t + 15) ++ [how] ∧ σ'.1 (t + 17) = σ.1 (t + 17) ++ [an] ∧ σ'.1 (t + 19) = σ.1 (t + 19) ++ [it] ∧
  σ'.1 (t + 5) = w1 0 (σ'.1 (t + 3)) ∧ σ'.1 (t + 7) = w2 1 (σ'.1 (t + 3)) ∧ σ'.1 (t + 9) = w3 1 (σ'.1 (t + 3))
theorem s_120 (ht : isT t) (hh : 0 ≤ how ∧ how ≤ 7) (ha : in32 an) (hi : in32 it) (hl : (σ.1 (t + 1)).length = (σ.1 (t + 3)).length) (hmem : how ≠ 7 → an ∈ itL (σ.1 (t + 1)) it) (hcap : (itL (σ.1 (t + 1)) it).length < 48)
    (h15 : (σ.1 (t + 15)).length < 12) (h17 : (σ.1 (t + 17)).length < 12) (h19 : (σ.1 (t + 19)).length < 12) (h11 : (rrem (σ.1 (t + 11)) (rplace (σ.1 (t + 11)) it)).length < 12) (h13 : (rrem (σ.1 (t + 13)) (rplace (σ.1 (t + 11)) it)).length < 12)
    (htl : (tellL (σ.1 (t + 1)) (σ.1 (t + 3)) how an it).1.length = (tellL (σ.1 (t + 1)) (σ.1 (t + 3)) how an it).2.length)
    (K : ∀ σ', toldR t σ σ' how an it → post (.inl none) σ') :
    Tr Ls N 120 0 [some (mP (some t)), some (mI how), some (mI an), some (mI it)] [] σ post := by
  have hll := lvL_len hl it
  -- behind the change of the list
  have hend : ∀ σ2, onlyR (rT t) σ σ2 → σ2.1 (t + 1) = (tellL (σ.1 (t + 1)) (σ.1 (t + 3)) how an it).1 → σ2.1 (t + 3) = (tellL (σ.1 (t + 1)) (σ.1 (t + 3)) how an it).2 → σ2.1 (t + 11) = rrem (σ.1 (t + 11)) (rplace (σ.1 (t + 11)) it) ++ (if how = 7 then [it] else []) → σ2.1 (t + 13) = rrem (σ.1 (t + 13)) (rplace (σ.1 (t + 11)) it) ++ (if how = 7 then [an] else []) → σ2.1 (t + 15) = σ.1 (t + 15) → σ2.1 (t + 17) = σ.1 (t + 17) → σ2.1 (t + 19) = σ.1 (t + 19) →
      Tr Ls N 120 69 [some (mP (some t)), some (mI how), some (mI an), some (mI it)] [] σ2 post := by
    intro σ2 o1 o2 o3 o4 o5 o6 o7 o8
    iterate 1 (refine tr_mv rfl (fun _ => rfl) ?_)
    refine tr_gr rfl (T_O ht) (by decide) (T_p7 ht) ?_
    iterate 1 (refine tr_mv rfl (fun _ => rfl) ?_)
    refine tr_put (T_r7 ht) (by omega) rfl rfl ?_
    rw [o6, rput_lt h15]
    iterate 1 (refine tr_mv rfl (fun _ => rfl) ?_)
    refine tr_gr rfl (T_O ht) (by decide) (T_p8 ht) ?_
    iterate 1 (refine tr_mv rfl (fun _ => rfl) ?_)
    refine tr_put (T_r8 ht) ha rfl rfl ?_
    rw [setR_ne _ _ (show t + 17 ≠ t + 15 by omega), o7, rput_lt h17]
    iterate 1 (refine tr_mv rfl (fun _ => rfl) ?_)
    refine tr_gr rfl (T_O ht) (by decide) (T_p9 ht) ?_
    iterate 1 (refine tr_mv rfl (fun _ => rfl) ?_)
    refine tr_put (T_r9 ht) hi rfl rfl ?_
    rw [setR_ne _ _ (show t + 19 ≠ t + 17 by omega), setR_ne _ _ (show t + 19 ≠ t + 15 by omega), o8, rput_lt h19]
    generalize hσ : setR (setR (setR σ2 (t + 15) (σ.1 (t + 15) ++ [how])) (t + 17) (σ.1 (t + 17) ++ [an])) (t + 19) (σ.1 (t + 19) ++ [it]) = σ3
    have k3 : onlyR (rT t) σ σ3 := by
      rw [← hσ]
      exact ((o1.setR ⟨by omega, by omega⟩).setR ⟨by omega, by omega⟩).setR ⟨by omega, by omega⟩
    have hlow : ∀ o, o < 15 → σ3.1 (t + o) = σ2.1 (t + o) := fun o ho => by rw [← hσ, setR_ne _ _ (by omega), setR_ne _ _ (by omega), setR_ne _ _ (by omega)]
    have q15 : σ3.1 (t + 15) = σ.1 (t + 15) ++ [how] := by rw [← hσ, setR_ne _ _ (by omega), setR_ne _ _ (by omega), setR_same]
    have q17 : σ3.1 (t + 17) = σ.1 (t + 17) ++ [an] := by rw [← hσ, setR_ne _ _ (by omega), setR_same]
    have q19 : σ3.1 (t + 19) = σ.1 (t + 19) ++ [it] := by rw [← hσ, setR_same]
    iterate 1 (refine tr_mv rfl (fun _ => rfl) ?_)
    refine tr_vc (q := t) rfl (T_O ht) rfl rfl rfl (s_107 ht (by rw [hlow 1 (by decide), hlow 3 (by decide), o2, o3]; exact htl) (fun σ4 g1 g2 g3 g4 => ?_))
    have g5 : ∀ o, o ≠ 5 → o ≠ 7 → o ≠ 9 → σ4.1 (t + o) = σ3.1 (t + o) := fun o e1 e2 e3 => g1.2 _ (fun g => by omega)
    have g6 := g5 3 (by decide) (by decide) (by decide)
    rw [← g6] at g2 g3 g4
    exact tr_ret rfl (fun _ => rfl) (K σ4 ⟨k3.tr (g1.wk (fun a ha => ⟨by omega, by omega⟩)), by rw [g5 1 (by decide) (by decide) (by decide), hlow 1 (by decide), o2], by rw [g6, hlow 3 (by decide), o3], by rw [g5 11 (by decide) (by decide) (by decide), hlow 11 (by decide), o4], by rw [g5 13 (by decide) (by decide) (by decide), hlow 13 (by decide), o5], by rw [g5 15 (by decide) (by decide) (by decide), q15], by rw [g5 17 (by decide) (by decide) (by decide), q17], by rw [g5 19 (by decide) (by decide) (by decide), q19], g2, g3, g4⟩)
  iterate 2 (refine tr_mv rfl (fun _ => rfl) ?_)
  refine tr_vc (q := t) rfl (T_O ht) rfl rfl rfl (s_121 ht hi (fun σ1 a1 a2 a3 => ?_))
  have e1 : ∀ o, o ≠ 1 → o ≠ 3 → σ1.1 (t + o) = σ.1 (t + o) := fun o g1 g2 => a1.2 _ (fun g => by omega)
  iterate 2 (refine tr_mv rfl (fun _ => rfl) ?_)
  refine tr_vc (q := t) rfl (T_O ht) rfl rfl rfl (s_122 ht hi ?_)
  rw [e1 11 (by decide) (by decide), e1 13 (by decide) (by decide)]
  generalize hσ : setR (setR σ1 (t + 11) (rrem (σ.1 (t + 11)) (rplace (σ.1 (t + 11)) it))) (t + 13) (rrem (σ.1 (t + 13)) (rplace (σ.1 (t + 11)) it)) = σ2
  have k2 : onlyR (rT t) σ σ2 := by
    rw [← hσ]
    exact ((a1.wk (fun a ha => ⟨by omega, by omega⟩)).setR ⟨by omega, by omega⟩).setR ⟨by omega, by omega⟩
  have b1 : σ2.1 (t + 1) = itL (σ.1 (t + 1)) it := by rw [← hσ, setR_ne _ _ (by omega), setR_ne _ _ (by omega), a2]
  have b3 : σ2.1 (t + 3) = lvL (σ.1 (t + 1)) (σ.1 (t + 3)) it := by rw [← hσ, setR_ne _ _ (by omega), setR_ne _ _ (by omega), a3]
  have b11 : σ2.1 (t + 11) = rrem (σ.1 (t + 11)) (rplace (σ.1 (t + 11)) it) := by rw [← hσ, setR_ne _ _ (by omega), setR_same]
  have b13 : σ2.1 (t + 13) = rrem (σ.1 (t + 13)) (rplace (σ.1 (t + 11)) it) := by rw [← hσ, setR_same]
  have bhi : ∀ o, o = 15 ∨ o = 17 ∨ o = 19 → σ2.1 (t + o) = σ.1 (t + o) := fun o ho => by rw [← hσ, setR_ne _ _ (by omega), setR_ne _ _ (by omega), e1 o (by omega) (by omega)]
  iterate 2 (refine tr_mv rfl (fun _ => rfl) ?_)
  refine tr_cmp2 rfl (m32_of (by omega)) (m32_of (by omega)) (fun c1 => ?_) (fun c1 => ?_)
  · have h7 : how ≠ 7 := c1
    have hm := hmem h7
    iterate 2 (refine tr_mv rfl (fun _ => rfl) ?_)
    refine tr_cmp2 rfl (m32_of (by omega)) (m32_of (by omega)) (fun c2 => ?_) (fun c2 => ?_)
    · iterate 4 (refine tr_mv rfl (fun _ => rfl) ?_)
      have hgo : ∀ v, v = (if how = 0 then 4 else how) → Tr Ls N 120 66 [some (mP (some t)), some (mI how), some (mI an), some (mI it)] [mI v, mI an, mI it, mP (some t)] σ2 post := by
        intro v hv
        refine tr_vc (q := t) rfl (T_O ht) rfl rfl rfl (s_123 ht hi ha (by split at hv <;> omega) (by rw [b1]; exact hm) (by rw [b1, b3, hll]) (fun p hp hp2 => ?_))
        rw [b1] at hp hp2
        rw [b1, b3]
        have ep : (rplace (itL (σ.1 (t + 1)) it) an).toNat = p := by omega
        refine hend _ ((k2.setR ⟨by omega, by omega⟩).setR ⟨by omega, by omega⟩) ?_ ?_ ?_ ?_ ?_ ?_ ?_
        · rw [setR_ne _ _ (by omega), setR_same]
          unfold tellL
          rw [if_neg h7, if_neg (by omega), ep, hv]
        · rw [setR_same]
          unfold tellL
          rw [if_neg h7, if_neg (by omega), ep, hv]
        · rw [setR_ne _ _ (by omega), setR_ne _ _ (by omega), b11, if_neg h7, List.append_nil]
        · rw [setR_ne _ _ (by omega), setR_ne _ _ (by omega), b13, if_neg h7, List.append_nil]
        · rw [setR_ne _ _ (by omega), setR_ne _ _ (by omega), bhi 15 (by omega)]
        · rw [setR_ne _ _ (by omega), setR_ne _ _ (by omega), bhi 17 (by omega)]
        · rw [setR_ne _ _ (by omega), setR_ne _ _ (by omega), bhi 19 (by omega)]
      refine tr_if2 rfl (m32_of (by omega)) (fun c3 => ?_) (fun c3 => ?_)
      · iterate 1 (refine tr_mv rfl (fun _ => rfl) ?_)
        exact hgo how (by rw [if_neg (by omega)])
      · iterate 2 (refine tr_mv rfl (fun _ => rfl) ?_)
        exact hgo 4 (by rw [if_pos (by omega)])
    · iterate 8 (refine tr_mv rfl (fun _ => rfl) ?_)
      refine tr_vc (q := t) rfl (T_O ht) rfl rfl rfl (s_124 ht hi ha (by omega) (by rw [b1]; exact hm) (by rw [b1, b3, hll]) (by rw [b1]; exact hcap) (fun p hp => ?_))
      rw [b1] at hp
      rw [b1, b3]
      have ep : (rplace (itL (σ.1 (t + 1)) it) an).toNat = p := by omega
      iterate 1 (refine tr_mv rfl (fun _ => rfl) ?_)
      refine hend _ ((k2.setR ⟨by omega, by omega⟩).setR ⟨by omega, by omega⟩) ?_ ?_ ?_ ?_ ?_ ?_ ?_
      · rw [setR_ne _ _ (by omega), setR_same]
        unfold tellL
        rw [if_neg h7, if_pos (by omega), ep]
      · rw [setR_same]
        unfold tellL
        rw [if_neg h7, if_pos (by omega), ep]
      · rw [setR_ne _ _ (by omega), setR_ne _ _ (by omega), b11, if_neg h7, List.append_nil]
      · rw [setR_ne _ _ (by omega), setR_ne _ _ (by omega), b13, if_neg h7, List.append_nil]
      · rw [setR_ne _ _ (by omega), setR_ne _ _ (by omega), bhi 15 (by omega)]
      · rw [setR_ne _ _ (by omega), setR_ne _ _ (by omega), bhi 17 (by omega)]
      · rw [setR_ne _ _ (by omega), setR_ne _ _ (by omega), bhi 19 (by omega)]
  · have h7 : how = 7 := by omega
    iterate 1 (refine tr_mv rfl (fun _ => rfl) ?_)
    refine tr_gr rfl (T_O ht) (by decide) (T_p5 ht) ?_
    iterate 1 (refine tr_mv rfl (fun _ => rfl) ?_)
    refine tr_put (T_r5 ht) hi rfl rfl ?_
    rw [b11, rput_lt h11]
    iterate 1 (refine tr_mv rfl (fun _ => rfl) ?_)
    refine tr_gr rfl (T_O ht) (by decide) (T_p6 ht) ?_
    iterate 1 (refine tr_mv rfl (fun _ => rfl) ?_)
    refine tr_put (T_r6 ht) ha rfl rfl ?_
    rw [setR_ne _ _ (show t + 13 ≠ t + 11 by omega), b13, rput_lt h13]
    iterate 1 (refine tr_mv rfl (fun _ => rfl) ?_)
    refine hend _ ((k2.setR ⟨by omega, by omega⟩).setR ⟨by omega, by omega⟩) ?_ ?_ ?_ ?_ ?_ ?_ ?_
    · rw [setR_ne _ _ (by omega), setR_ne _ _ (by omega), b1]
      unfold tellL
      rw [if_pos h7]
    · rw [setR_ne _ _ (by omega), setR_ne _ _ (by omega), b3]
      unfold tellL
      rw [if_pos h7]
    · rw [setR_ne _ _ (by omega), setR_same, if_pos h7]
    · rw [setR_same, if_pos h7]
    · rw [setR_ne _ _ (by omega), setR_ne _ _ (by omega), bhi 15 (by omega)]
    · rw [setR_ne _ _ (by omega), setR_ne _ _ (by omega), bhi 17 (by omega)]
    · rw [setR_ne _ _ (by omega), setR_ne _ _ (by omega), bhi 19 (by omega)]
end TELL2
