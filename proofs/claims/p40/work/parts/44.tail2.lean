/-! The class Tailoring: its list changed. -/
def imin (a b : Int) : Int := if b < a then b else a
def itL (its : List Int) (x : Int) : List Int := rrem its (rplace its x)
def lvL (its lvs : List Int) (x : Int) : List Int := if rplace its x = -1 then lvs else rrem (rset lvs (rplace its x + 1) (imin (rget lvs (rplace its x)) (rget lvs (rplace its x + 1)))) (rplace its x)
/-- behind those that are deeper -/
def bhF (lvs : List Int) (lv : Int) : Nat → Nat → Nat
  | 0, p => p
  | d + 1, p => if lv < lvs.getD p 0 then bhF lvs lv d (p + 1) else p
/-- ahead of those that are deeper -/
def ahF (lvs : List Int) (lv : Int) : Nat → Nat
  | 0 => 0
  | p + 1 => if lv < lvs.getD (p + 1) 0 then ahF lvs lv p else p + 1
section TAIL2
variable {Ls N N1 N2 k pc n n' nn b c t a q : Nat} {L L0 : mLs} {st r as : List mV} {h h' : mH} {σ σ' σ'' : Sg} {post : tP} {x y z x' y' i i' s v m w : Int} {xs ys : List Int} {e : mE} {C : Nat → Nat → Prop} {B M : Int → Int} {R : Nat → Prop}
theorem s_121 (ht : isT t) (hx : in32 x) (K : ∀ σ', onlyR (fun a => a = t + 1 ∨ a = t + 3) σ σ' → σ'.1 (t + 1) = itL (σ.1 (t + 1)) x → σ'.1 (t + 3) = lvL (σ.1 (t + 1)) (σ.1 (t + 3)) x → post (.inl none) σ') : Tr Ls N 121 0 [some (mP (some t)), some (mI x), none] [] σ post := by
  refine tr_fact fun ⟨h0, hr⟩ => ?_
  have h1 := rplace_in (T_r0 ht) hr x
  have l1 := rep_len hr (T_r0 ht)
  have g1 := rget_in (rep_in hr (T_r1 ht)) (rplace (σ.1 (t + 1)) x)
  have g2 := rget_in (rep_in hr (T_r1 ht)) (rplace (σ.1 (t + 1)) x + 1)
  iterate 1 (refine tr_mv rfl (fun _ => rfl) ?_)
  refine tr_gr rfl (T_O ht) (by decide) (T_p0 ht) ?_
  iterate 1 (refine tr_mv rfl (fun _ => rfl) ?_)
  refine tr_placeOf (T_r0 ht) hx rfl rfl ?_
  iterate 3 (refine tr_mv rfl (fun _ => rfl) ?_)
  refine tr_cmp2 rfl (m32_of (by omega)) (m32_of (x := -1) ⟨by decide, by decide⟩) (fun c1 => ?_) (fun c1 => ?_)
  · have e : rplace (σ.1 (t + 1)) x = -1 := c1
    exact tr_ret rfl (fun _ => rfl) (K σ onlyR.rf (by unfold itL rrem; rw [if_neg (by omega)]) (by unfold lvL; rw [if_pos e]))
  · have e : rplace (σ.1 (t + 1)) x ≠ -1 := c1
    iterate 1 (refine tr_mv rfl (fun _ => rfl) ?_)
    refine tr_gr rfl (T_O ht) (by decide) (T_p1 ht) ?_
    iterate 4 (refine tr_mv rfl (fun _ => rfl) ?_)
    refine tr_gr rfl (T_O ht) (by decide) (T_p1 ht) ?_
    iterate 1 (refine tr_mv rfl (fun _ => rfl) ?_)
    refine tr_at2 (T_r1 ht) (m32_of (by omega)) rfl rfl ?_
    iterate 1 (refine tr_mv rfl (fun _ => rfl) ?_)
    refine tr_gr rfl (T_O ht) (by decide) (T_p1 ht) ?_
    iterate 3 (refine tr_mv rfl (fun _ => rfl) ?_)
    refine tr_at2 (T_r1 ht) (m32_of (by omega)) rfl rfl ?_
    refine tr_stat rfl rfl rfl (s_330 g1 g2 ?_)
    refine tr_set2 (T_r1 ht) (m32_of (by omega)) (by split <;> assumption) rfl rfl ?_
    iterate 1 (refine tr_mv rfl (fun _ => rfl) ?_)
    refine tr_gr rfl (T_O ht) (by decide) (T_p0 ht) ?_
    iterate 1 (refine tr_mv rfl (fun _ => rfl) ?_)
    refine tr_removeAt (T_r0 ht) (by omega) rfl rfl ?_
    iterate 1 (refine tr_mv rfl (fun _ => rfl) ?_)
    refine tr_gr rfl (T_O ht) (by decide) (T_p1 ht) ?_
    iterate 1 (refine tr_mv rfl (fun _ => rfl) ?_)
    refine tr_removeAt (T_r1 ht) (by omega) rfl rfl ?_
    refine tr_ret rfl (fun _ => rfl) (K _ (((onlyR.rf.setR (Or.inr rfl)).setR (Or.inl rfl)).setR (Or.inr rfl)) ?_ ?_)
    · rw [setR_ne _ _ (by omega), setR_same, setR_ne _ _ (by omega)]
      rfl
    · rw [setR_same, setR_ne _ _ (by omega), setR_same]
      unfold lvL imin
      rw [if_neg e]
theorem s_123_loop (ht : isT t) (hx : in32 x) (hy : in32 y) (hlv : in32 v) : ∀ (d p : Nat) (σ : Sg), (σ.1 (t + 1)).length = p + d → (σ.1 (t + 3)).length = p + d → post (.inl none) (setR (setR σ (t + 1) (rins 48 (σ.1 (t + 1)) (bhF (σ.1 (t + 3)) v d p) x)) (t + 3) (rins 48 (σ.1 (t + 3)) (bhF (σ.1 (t + 3)) v d p) v)) →
    Tr Ls N 123 12 [some (mP (some t)), some (mI x), some (mI y), some (mI v), some (mI (p : Int))] [] σ post := by
  have hfin : ∀ (p : Nat) (σ : Sg), p < 1000 → post (.inl none) (setR (setR σ (t + 1) (rins 48 (σ.1 (t + 1)) p x)) (t + 3) (rins 48 (σ.1 (t + 3)) p v)) → Tr Ls N 123 43 [some (mP (some t)), some (mI x), some (mI y), some (mI v), some (mI (p : Int))] [] σ post := by
    intro p σ hp K
    iterate 1 (refine tr_mv rfl (fun _ => rfl) ?_)
    refine tr_gr rfl (T_O ht) (by decide) (T_p0 ht) ?_
    iterate 2 (refine tr_mv rfl (fun _ => rfl) ?_)
    refine tr_insert (T_r0 ht) hx rfl rfl ?_
    rw [m32_nat (show p < 2147483648 by omega)]
    iterate 1 (refine tr_mv rfl (fun _ => rfl) ?_)
    refine tr_gr rfl (T_O ht) (by decide) (T_p1 ht) ?_
    iterate 2 (refine tr_mv rfl (fun _ => rfl) ?_)
    refine tr_insert (T_r1 ht) hlv rfl rfl ?_
    rw [m32_nat (show p < 2147483648 by omega), setR_ne _ _ (show t + 3 ≠ t + 1 by omega)]
    exact tr_ret rfl (fun _ => rfl) K
  intro d
  induction d with
  | zero =>
    intro p σ h1 h2 K
    refine tr_fact fun ⟨h0, hr⟩ => ?_
    have l1 := rep_len hr (T_r0 ht)
    iterate 2 (refine tr_mv rfl (fun _ => rfl) ?_)
    refine tr_gr rfl (T_O ht) (by decide) (T_p0 ht) ?_
    refine tr_size (T_r0 ht) rfl rfl ?_
    refine tr_cmp2 rfl (m32_of (by omega)) (m32_of (by omega)) (fun _ => ?_) (fun c1 => absurd (show ((σ.1 (t + 1)).length : Int) ≤ (p : Int) by omega) c1)
    exact hfin p σ (by omega) K
  | succ d ih =>
    intro p σ h1 h2 K
    refine tr_fact fun ⟨h0, hr⟩ => ?_
    have l1 := rep_len hr (T_r0 ht)
    have hg : rget (σ.1 (t + 3)) (p : Int) = (σ.1 (t + 3)).getD p 0 := by
      unfold rget
      rw [if_pos (by omega), Int.toNat_natCast]
    have hgi := rget_in (rep_in hr (T_r1 ht)) (p : Int)
    rw [hg] at hgi
    unfold bhF at K
    iterate 2 (refine tr_mv rfl (fun _ => rfl) ?_)
    refine tr_gr rfl (T_O ht) (by decide) (T_p0 ht) ?_
    refine tr_size (T_r0 ht) rfl rfl ?_
    refine tr_cmp2 rfl (m32_of (by omega)) (m32_of (by omega)) (fun c1 => absurd c1 (by show ¬ _ ≤ _; omega)) (fun _ => ?_)
    iterate 1 (refine tr_mv rfl (fun _ => rfl) ?_)
    refine tr_gr rfl (T_O ht) (by decide) (T_p1 ht) ?_
    iterate 1 (refine tr_mv rfl (fun _ => rfl) ?_)
    refine tr_at2 (T_r1 ht) (m32_of (by omega)) rfl rfl ?_
    rw [hg]
    iterate 1 (refine tr_mv rfl (fun _ => rfl) ?_)
    refine tr_cmp2 rfl (m32_of (by omega)) (m32_of (by omega)) (fun c2 => ?_) (fun c2 => ?_)
    · have c2' : ¬ v < (σ.1 (t + 3)).getD p 0 := Int.not_lt.mpr c2
      rw [if_neg c2'] at K
      exact hfin p σ (by omega) K
    · have c2' : v < (σ.1 (t + 3)).getD p 0 := Int.not_le.mp c2
      rw [if_pos c2'] at K
      iterate 2 (refine tr_mv rfl (fun _ => rfl) ?_)
      show Tr Ls N 123 12 [some (mP (some t)), some (mI x), some (mI y), some (mI v), some (mI ((p : Int) + 1))] [] σ post
      rw [show (p : Int) + 1 = ((p + 1 : Nat) : Int) by omega]
      exact ih (p + 1) σ (by omega) (by omega) K
theorem s_123 (ht : isT t) (hx : in32 x) (hy : in32 y) (hlv : in32 v) (hm : y ∈ σ.1 (t + 1)) (hl : (σ.1 (t + 1)).length = (σ.1 (t + 3)).length) (K : ∀ p, rplace (σ.1 (t + 1)) y = ((p : Nat) : Int) → p < (σ.1 (t + 1)).length → post (.inl none) (setR (setR σ (t + 1) (rins 48 (σ.1 (t + 1)) (bhF (σ.1 (t + 3)) v ((σ.1 (t + 1)).length - (p + 1)) (p + 1)) x)) (t + 3) (rins 48 (σ.1 (t + 3)) (bhF (σ.1 (t + 3)) v ((σ.1 (t + 1)).length - (p + 1)) (p + 1)) v))) :
    Tr Ls N 123 0 [some (mP (some t)), some (mI x), some (mI y), some (mI v), none] [] σ post := by
  refine tr_fact fun ⟨h0, hr⟩ => ?_
  rcases rplace_in (T_r0 ht) hr y with g | g
  · exact absurd hm g.2
  · obtain ⟨p, hp⟩ : ∃ p : Nat, rplace (σ.1 (t + 1)) y = p := ⟨(rplace (σ.1 (t + 1)) y).toNat, by omega⟩
    have K' := K p hp (by omega)
    iterate 1 (refine tr_mv rfl (fun _ => rfl) ?_)
    refine tr_gr rfl (T_O ht) (by decide) (T_p0 ht) ?_
    iterate 1 (refine tr_mv rfl (fun _ => rfl) ?_)
    refine tr_placeOf (T_r0 ht) hy rfl rfl ?_
    rw [hp]
    iterate 3 (refine tr_mv rfl (fun _ => rfl) ?_)
    show Tr Ls N 123 12 [some (mP (some t)), some (mI x), some (mI y), some (mI v), some (mI ((p : Int) + 1))] [] σ post
    rw [show (p : Int) + 1 = ((p + 1 : Nat) : Int) by omega]
    exact s_123_loop ht hx hy hlv _ (p + 1) σ (by omega) (by omega) K'
theorem s_124_loop (ht : isT t) (hx : in32 x) (hlv : in32 v) : ∀ (p : Nat) (σ : Sg), p < (σ.1 (t + 1)).length → (σ.1 (t + 3)).length = (σ.1 (t + 1)).length → (σ.1 (t + 1)).length < 48 → post (.inl none) (setR (setR σ (t + 1) (rins 48 (σ.1 (t + 1)) (ahF (σ.1 (t + 3)) v p) x)) (t + 3) (rset (rins 48 (σ.1 (t + 3)) (ahF (σ.1 (t + 3)) v p) ((σ.1 (t + 3)).getD (ahF (σ.1 (t + 3)) v p) 0)) (ahF (σ.1 (t + 3)) v p + 1) v)) →
    Tr Ls N 124 10 [some (mP (some t)), some (mI x), some (mI y), some (mI v), some (mI (p : Int))] [] σ post := by
  have hfin : ∀ (p : Nat) (σ : Sg), p < (σ.1 (t + 1)).length → (σ.1 (t + 3)).length = (σ.1 (t + 1)).length → post (.inl none) (setR (setR σ (t + 1) (rins 48 (σ.1 (t + 1)) p x)) (t + 3) (rset (rins 48 (σ.1 (t + 3)) p ((σ.1 (t + 3)).getD p 0)) ((p : Int) + 1) v)) → Tr Ls N 124 34 [some (mP (some t)), some (mI x), some (mI y), some (mI v), some (mI (p : Int))] [] σ post := by
    intro p σ h1 h2 K
    refine tr_fact fun ⟨h0, hr⟩ => ?_
    have l1 := rep_len hr (T_r0 ht)
    have hg : rget (σ.1 (t + 3)) (p : Int) = (σ.1 (t + 3)).getD p 0 := by
      unfold rget
      rw [if_pos (by omega), Int.toNat_natCast]
    have hgi := rget_in (rep_in hr (T_r1 ht)) (p : Int)
    rw [hg] at hgi
    iterate 1 (refine tr_mv rfl (fun _ => rfl) ?_)
    refine tr_gr rfl (T_O ht) (by decide) (T_p0 ht) ?_
    iterate 2 (refine tr_mv rfl (fun _ => rfl) ?_)
    refine tr_insert (T_r0 ht) hx rfl rfl ?_
    rw [m32_nat (show p < 2147483648 by omega)]
    iterate 1 (refine tr_mv rfl (fun _ => rfl) ?_)
    refine tr_gr rfl (T_O ht) (by decide) (T_p1 ht) ?_
    iterate 2 (refine tr_mv rfl (fun _ => rfl) ?_)
    refine tr_gr rfl (T_O ht) (by decide) (T_p1 ht) ?_
    iterate 1 (refine tr_mv rfl (fun _ => rfl) ?_)
    refine tr_at2 (T_r1 ht) (m32_of (by omega)) rfl rfl ?_
    rw [setR_ne _ _ (show t + 3 ≠ t + 1 by omega), hg]
    refine tr_insert (T_r1 ht) hgi rfl rfl ?_
    rw [m32_nat (show p < 2147483648 by omega), setR_ne _ _ (show t + 3 ≠ t + 1 by omega)]
    iterate 1 (refine tr_mv rfl (fun _ => rfl) ?_)
    refine tr_gr rfl (T_O ht) (by decide) (T_p1 ht) ?_
    iterate 4 (refine tr_mv rfl (fun _ => rfl) ?_)
    refine tr_set2 (T_r1 ht) (m32_of (by omega)) hlv rfl rfl ?_
    rw [setR_same, setR_setR]
    exact tr_ret rfl (fun _ => rfl) K
  intro p
  induction p with
  | zero =>
    intro σ h1 h2 h3 K
    refine tr_mv rfl (fun _ => rfl) ?_
    refine tr_if2 rfl (m32_of (x := 0) ⟨by decide, by decide⟩) (fun _ => ?_) (fun c1 => absurd (show (0 : Int) ≤ 0 by decide) c1)
    exact hfin 0 σ h1 h2 K
  | succ p ih =>
    intro σ h1 h2 h3 K
    refine tr_fact fun ⟨h0, hr⟩ => ?_
    have l1 := rep_len hr (T_r0 ht)
    have hg : rget (σ.1 (t + 3)) ((p + 1 : Nat) : Int) = (σ.1 (t + 3)).getD (p + 1) 0 := by
      unfold rget
      rw [if_pos (by omega), Int.toNat_natCast]
    have hgi := rget_in (rep_in hr (T_r1 ht)) ((p + 1 : Nat) : Int)
    rw [hg] at hgi
    unfold ahF at K
    iterate 1 (refine tr_mv rfl (fun _ => rfl) ?_)
    refine tr_if2 rfl (m32_of (by omega)) (fun c1 => absurd c1 (by show ¬ _ ≤ _; omega)) (fun _ => ?_)
    iterate 1 (refine tr_mv rfl (fun _ => rfl) ?_)
    refine tr_gr rfl (T_O ht) (by decide) (T_p1 ht) ?_
    iterate 1 (refine tr_mv rfl (fun _ => rfl) ?_)
    refine tr_at2 (T_r1 ht) (m32_of (by omega)) rfl rfl ?_
    rw [hg]
    iterate 1 (refine tr_mv rfl (fun _ => rfl) ?_)
    refine tr_cmp2 rfl (m32_of (by omega)) (m32_of (by omega)) (fun c2 => ?_) (fun c2 => ?_)
    · have c2' : ¬ v < (σ.1 (t + 3)).getD (p + 1) 0 := Int.not_lt.mpr c2
      simp only [if_neg c2'] at K
      exact hfin (p + 1) σ h1 h2 K
    · have c2' : v < (σ.1 (t + 3)).getD (p + 1) 0 := Int.not_le.mp c2
      simp only [if_pos c2'] at K
      iterate 2 (refine tr_mv rfl (fun _ => rfl) ?_)
      show Tr Ls N 124 10 [some (mP (some t)), some (mI x), some (mI y), some (mI v), some (mI (((p + 1 : Nat) : Int) + -1))] [] σ post
      rw [show ((p + 1 : Nat) : Int) + -1 = (p : Int) by omega]
      exact ih σ (by omega) h2 h3 K
end TAIL2
