/-! What changes; the class Elements: its places and small methods. -/
/-- rows of R and numbers of C alone may differ -/
def chg (R : Nat → Prop) (C : Nat → Nat → Prop) (σ σ' : Sg) : Prop := (∀ a, ¬ R a → σ'.1 a = σ.1 a) ∧ ∀ q i, ¬ C q i → σ'.2 q i = σ.2 q i
def noC (_ _ : Nat) : Prop := False
def noR (_ : Nat) : Prop := False
section CHG
variable {R R' : Nat → Prop} {C C' : Nat → Nat → Prop} {σ σ' σ'' : Sg} {xs : List Int} {a q i : Nat} {x : Int}
theorem chg.rf : chg R C σ σ := ⟨fun _ _ => rfl, fun _ _ _ => rfl⟩
theorem chg.tr (h1 : chg R C σ σ') (h2 : chg R C σ' σ'') : chg R C σ σ'' := ⟨fun a ha => (h2.1 a ha).trans (h1.1 a ha), fun q i hq => (h2.2 q i hq).trans (h1.2 q i hq)⟩
theorem chg.wk (h1 : chg R C σ σ') (hR : ∀ a, R a → R' a) (hC : ∀ q i, C q i → C' q i) : chg R' C' σ σ' := ⟨fun a ha => h1.1 a (fun g => ha (hR a g)), fun q i hq => h1.2 q i (fun g => hq (hC q i g))⟩
theorem chg.setR (h1 : chg R C σ σ') (ha : R a) : chg R C σ (setR σ' a xs) := ⟨fun b hb => (setR_ne _ _ (fun e => hb (by rw [e]; exact ha))).trans (h1.1 b hb), h1.2⟩
theorem chg.setF (h1 : chg R C σ σ') (hc : C q i) : chg R C σ (setF σ' q i x) := ⟨h1.1, fun p j hp => by
  show mup σ'.2 q i x p j = _
  unfold mup
  split
  · rename_i e1
    split
    · rename_i e2
      rw [e1, e2] at hp
      exact absurd hc hp
    · exact h1.2 p j hp
  · exact h1.2 p j hp⟩
theorem onlyR.chg (h : onlyR R σ σ') : chg R C σ σ' := ⟨h.2, fun q i _ => by rw [h.1]⟩
theorem only.chg (h : only C σ σ') : chg R C σ σ' := ⟨fun a _ => by rw [h.1], h.2⟩
end CHG
def isEl (u : Nat) : Prop := u = 109 ∨ u = 120
theorem L_O {u : Nat} (h : isEl u) : isO u 3 := by
  rcases h with rfl | rfl <;> exact ⟨by decide, by decide +kernel⟩
theorem L_c {u : Nat} (h : isEl u) : rowC u = false := by
  rcases h with rfl | rfl <;> decide +kernel
theorem L_n5 {u : Nat} (h : isEl u) : mPtr u 5 = none := by
  rcases h with rfl | rfl <;> decide +kernel
theorem L_p0 {u : Nat} (h : isEl u) : mPtr u 0 = some (u + 1) := by
  rcases h with rfl | rfl <;> decide +kernel
theorem L_r0 {u : Nat} (h : isEl u) : isRow (u + 1) 93 := by
  rcases h with rfl | rfl <;> exact ⟨by decide, by decide +kernel, by decide +kernel⟩
theorem L_p1 {u : Nat} (h : isEl u) : mPtr u 1 = some (u + 3) := by
  rcases h with rfl | rfl <;> decide +kernel
theorem L_r1 {u : Nat} (h : isEl u) : isRow (u + 3) 93 := by
  rcases h with rfl | rfl <;> exact ⟨by decide, by decide +kernel, by decide +kernel⟩
theorem L_p2 {u : Nat} (h : isEl u) : mPtr u 2 = some (u + 5) := by
  rcases h with rfl | rfl <;> decide +kernel
theorem L_r2 {u : Nat} (h : isEl u) : isRow (u + 5) 93 := by
  rcases h with rfl | rfl <;> exact ⟨by decide, by decide +kernel, by decide +kernel⟩
theorem L_p3 {u : Nat} (h : isEl u) : mPtr u 3 = some (u + 7) := by
  rcases h with rfl | rfl <;> decide +kernel
theorem L_r3 {u : Nat} (h : isEl u) : isRow (u + 7) 93 := by
  rcases h with rfl | rfl <;> exact ⟨by decide, by decide +kernel, by decide +kernel⟩
theorem L_p4 {u : Nat} (h : isEl u) : mPtr u 4 = some (u + 9) := by
  rcases h with rfl | rfl <;> decide +kernel
theorem L_r4 {u : Nat} (h : isEl u) : isRow (u + 9) 31 := by
  rcases h with rfl | rfl <;> exact ⟨by decide, by decide +kernel, by decide +kernel⟩
abbrev El : Type := Int × Int × Int × Int
/-- the places of the Elements u -/
abbrev elR (u a : Nat) : Prop := u < a ∧ a < u + 10
abbrev elC (u q i : Nat) : Prop := q = u ∧ i = 5
def elIs (u : Nat) (σ : Sg) (els : List El) (tk : List Int) (kd : Int) : Prop := σ.1 (u + 1) = els.map (fun e => e.1) ∧ σ.1 (u + 3) = els.map (fun e => e.2.1) ∧ σ.1 (u + 5) = els.map (fun e => e.2.2.1) ∧ σ.1 (u + 7) = els.map (fun e => e.2.2.2) ∧ σ.1 (u + 9) = tk ∧ σ.2 u 5 = kd
/-- n places from f on are v's -/
def tkF : Nat → Nat → Int → List Int → List Int
  | 0, _, _, l => l
  | n + 1, f, v, l => tkF n (f + 1) v (l.set f v)
section ELEM
variable {Ls N N1 N2 k pc n n' nn b c t u a q : Nat} {L L0 : mLs} {st r as : List mV} {h h' : mH} {σ σ' σ'' : Sg} {post : tP} {x y z x' y' i i' s v m w kd : Int} {xs ys tk : List Int} {els : List El} {e : mE}
theorem tkF_len : ∀ (n f : Nat) (v : Int) (l : List Int), (tkF n f v l).length = l.length
  | 0, _, _, _ => rfl
  | n + 1, f, v, l => by unfold tkF; rw [tkF_len n]; exact List.length_set
theorem rset_nat {f : Nat} (hf : f < xs.length) : rset xs (f : Int) v = xs.set f v := by
  unfold rset
  rw [if_pos (by omega), Int.toNat_natCast]
theorem set_out {f : Nat} (hf : xs.length ≤ f) : xs.set f v = xs := List.set_eq_of_length_le hf
theorem rset_nat2 (f : Nat) : rset xs (f : Int) v = xs.set f v := by
  by_cases hf : f < xs.length
  · exact rset_nat hf
  · rw [set_out (by omega)]
    unfold rset
    rw [if_neg (by omega)]
theorem s_37 (hu : isEl u) (hS : elIs u σ els tk kd) (hl : els.length < 93) (hx : in32 x) (hy : in32 y) (hz : in32 z) (hkd : in32 kd) (K : ∀ σ', elIs u σ' (els ++ [(x, y, z, kd)]) tk kd → chg (elR u) (elC u) σ σ' → post (.inl none) σ') : Tr Ls N 37 0 [some (mP (some u)), some (mI x), some (mI y), some (mI z)] [] σ post := by
  obtain ⟨h1, h2, h3, h4, h5, h6⟩ := hS
  iterate 1 (refine tr_mv rfl (fun _ => rfl) ?_)
  refine tr_gr rfl (L_O hu) (by decide) (L_p0 hu) ?_
  iterate 1 (refine tr_mv rfl (fun _ => rfl) ?_)
  refine tr_put (L_r0 hu) hx rfl rfl ?_
  rw [rput_lt (by rw [h1, List.length_map]; exact hl)]
  iterate 1 (refine tr_mv rfl (fun _ => rfl) ?_)
  refine tr_gr rfl (L_O hu) (by decide) (L_p1 hu) ?_
  iterate 1 (refine tr_mv rfl (fun _ => rfl) ?_)
  refine tr_put (L_r1 hu) hy rfl rfl ?_
  rw [setR_ne _ _ (show u + 3 ≠ u + 1 by omega), rput_lt (by rw [h2, List.length_map]; exact hl)]
  iterate 1 (refine tr_mv rfl (fun _ => rfl) ?_)
  refine tr_gr rfl (L_O hu) (by decide) (L_p2 hu) ?_
  iterate 1 (refine tr_mv rfl (fun _ => rfl) ?_)
  refine tr_put (L_r2 hu) hz rfl rfl ?_
  rw [setR_ne _ _ (show u + 5 ≠ u + 3 by omega), setR_ne _ _ (show u + 5 ≠ u + 1 by omega), rput_lt (by rw [h3, List.length_map]; exact hl)]
  iterate 1 (refine tr_mv rfl (fun _ => rfl) ?_)
  refine tr_gr rfl (L_O hu) (by decide) (L_p3 hu) ?_
  iterate 1 (refine tr_mv rfl (fun _ => rfl) ?_)
  refine tr_gi rfl (by decide) (L_O hu) (by decide) (L_c hu) (L_n5 hu) ?_
  refine tr_put (L_r3 hu) (by show in32 (σ.2 u 5); rw [h6]; exact hkd) rfl rfl ?_
  rw [setR_ne _ _ (show u + 7 ≠ u + 5 by omega), setR_ne _ _ (show u + 7 ≠ u + 3 by omega), setR_ne _ _ (show u + 7 ≠ u + 1 by omega), rput_lt (by rw [h4, List.length_map]; exact hl)]
  refine tr_ret rfl (fun _ => rfl) (K _ ?_ ((((chg.rf.setR ⟨by omega, by omega⟩).setR ⟨by omega, by omega⟩).setR ⟨by omega, by omega⟩).setR ⟨by omega, by omega⟩))
  refine ⟨?_, ?_, ?_, ?_, ?_, h6⟩
  · rw [setR_ne _ _ (by omega), setR_ne _ _ (by omega), setR_ne _ _ (by omega), setR_same, h1]
    simp
  · rw [setR_ne _ _ (by omega), setR_ne _ _ (by omega), setR_same, h2]
    simp
  · rw [setR_ne _ _ (by omega), setR_same, h3]
    simp
  · rw [setR_same, h4]
    show _ ++ [σ.2 u 5] = _
    rw [h6]
    simp
  · rw [setR_ne _ _ (by omega), setR_ne _ _ (by omega), setR_ne _ _ (by omega), setR_ne _ _ (by omega)]
    exact h5
theorem s_38_loop (hu : isEl u) (hv : in32 v) (f : Int) : ∀ (d p : Nat) (σ : Sg) (tk : List Int), p + d < 1000 → elIs u σ els tk kd → (∀ σ', elIs u σ' els (tkF d p v tk) kd → chg (elR u) (elC u) σ σ' → post (.inl none) σ') → Tr Ls N 38 3 [some (mP (some u)), some (mI f), some (mI ((p + d : Nat) : Int)), some (mI v), some (mI (p : Int))] [] σ post := by
  intro d
  induction d with
  | zero =>
    intro p σ tk hp hS K
    iterate 2 (refine tr_mv rfl (fun _ => rfl) ?_)
    refine tr_cmp2 rfl (m32_of (by omega)) (m32_of (by omega)) (fun _ => ?_) (fun c1 => absurd (show ((p + 0 : Nat) : Int) ≤ (p : Int) by omega) c1)
    exact tr_ret rfl (fun _ => rfl) (K σ hS chg.rf)
  | succ d ih =>
    intro p σ tk hp hS K
    obtain ⟨h1, h2, h3, h4, h5, h6⟩ := hS
    iterate 2 (refine tr_mv rfl (fun _ => rfl) ?_)
    refine tr_cmp2 rfl (m32_of (by omega)) (m32_of (by omega)) (fun c1 => absurd c1 (by show ¬ _ ≤ _; omega)) (fun _ => ?_)
    iterate 1 (refine tr_mv rfl (fun _ => rfl) ?_)
    refine tr_gr rfl (L_O hu) (by decide) (L_p4 hu) ?_
    iterate 2 (refine tr_mv rfl (fun _ => rfl) ?_)
    refine tr_set2 (L_r4 hu) (m32_of (by omega)) hv rfl rfl ?_
    rw [h5, rset_nat2]
    iterate 2 (refine tr_mv rfl (fun _ => rfl) ?_)
    show Tr Ls N 38 3 [some (mP (some u)), some (mI f), some (mI ((p + (d + 1) : Nat) : Int)), some (mI v), some (mI ((p : Int) + 1))] [] _ post
    rw [show (p : Int) + 1 = ((p + 1 : Nat) : Int) by omega, show p + (d + 1) = p + 1 + d by omega]
    refine ih (p + 1) _ (tk.set p v) (by omega) ⟨by rw [setR_ne _ _ (by omega)]; exact h1, by rw [setR_ne _ _ (by omega)]; exact h2, by rw [setR_ne _ _ (by omega)]; exact h3, by rw [setR_ne _ _ (by omega)]; exact h4, by rw [setR_same], h6⟩ (fun σ' g1 g2 => K σ' g1 ((chg.rf.setR ⟨by omega, by omega⟩).tr g2))
theorem s_38 (hu : isEl u) (hv : in32 v) (hS : elIs u σ els tk kd) {p d : Nat} (hp : p + d < 1000) (hx : x = (p : Int)) (hy : y = ((p + d : Nat) : Int)) (K : ∀ σ', elIs u σ' els (tkF d p v tk) kd → chg (elR u) (elC u) σ σ' → post (.inl none) σ') : Tr Ls N 38 0 [some (mP (some u)), some (mI x), some (mI y), some (mI v), none] [] σ post := by
  subst hx
  subst hy
  iterate 2 (refine tr_mv rfl (fun _ => rfl) ?_)
  exact s_38_loop hu hv _ d p σ tk hp hS K
theorem elIs_setK (hu : isEl u) (hS : elIs u σ els tk kd) : elIs u (setF σ u 5 w) els tk w := ⟨hS.1, hS.2.1, hS.2.2.1, hS.2.2.2.1, hS.2.2.2.2.1, by show mup σ.2 u 5 w u 5 = w; unfold mup; rw [if_pos rfl, if_pos rfl]⟩
theorem s_36_loop (hu : isEl u) (n : Nat) (hn : n ≤ 31) : ∀ (d p : Nat) (σ : Sg), p + d = n → elIs u σ [] (List.replicate p (-1)) kd → (∀ σ', elIs u σ' [] (List.replicate n (-1)) 0 → chg (elR u) (elC u) σ σ' → post (.inl none) σ') → Tr Ls N 36 37 [some (mP (some u)), some (mI (n : Int)), some (mI (p : Int))] [] σ post := by
  intro d
  induction d with
  | zero =>
    intro p σ hp hS K
    rw [show p = n by omega] at hS
    iterate 2 (refine tr_mv rfl (fun _ => rfl) ?_)
    refine tr_cmp2 rfl (m32_of (by omega)) (m32_of (by omega)) (fun _ => ?_) (fun c1 => absurd (show (n : Int) ≤ (p : Int) by omega) c1)
    iterate 2 (refine tr_mv rfl (fun _ => rfl) ?_)
    refine tr_pi rfl (Or.inl rfl) (L_O hu) (by decide) (L_c hu) (L_n5 hu) ?_
    exact tr_ret rfl (fun _ => rfl) (K _ (elIs_setK hu hS) (chg.rf.setF ⟨rfl, rfl⟩))
  | succ d ih =>
    intro p σ hp hS K
    obtain ⟨h1, h2, h3, h4, h5, h6⟩ := hS
    iterate 2 (refine tr_mv rfl (fun _ => rfl) ?_)
    refine tr_cmp2 rfl (m32_of (by omega)) (m32_of (by omega)) (fun c1 => absurd c1 (by show ¬ _ ≤ _; omega)) (fun _ => ?_)
    iterate 1 (refine tr_mv rfl (fun _ => rfl) ?_)
    refine tr_gr rfl (L_O hu) (by decide) (L_p4 hu) ?_
    iterate 1 (refine tr_mv rfl (fun _ => rfl) ?_)
    refine tr_put (L_r4 hu) (by omega) rfl rfl ?_
    rw [h5, rput_lt (by rw [List.length_replicate]; omega)]
    iterate 2 (refine tr_mv rfl (fun _ => rfl) ?_)
    show Tr Ls N 36 37 [some (mP (some u)), some (mI (n : Int)), some (mI ((p : Int) + 1))] [] _ post
    rw [show (p : Int) + 1 = ((p + 1 : Nat) : Int) by omega]
    refine ih (p + 1) _ (by omega) ⟨by rw [setR_ne _ _ (by omega)]; exact h1, by rw [setR_ne _ _ (by omega)]; exact h2, by rw [setR_ne _ _ (by omega)]; exact h3, by rw [setR_ne _ _ (by omega)]; exact h4, by rw [setR_same, List.replicate_succ'], h6⟩ (fun σ' g1 g2 => K σ' g1 ((chg.rf.setR ⟨by omega, by omega⟩).tr g2))
theorem s_36 (hu : isEl u) {n : Nat} (hn : n ≤ 31) (K : ∀ σ', elIs u σ' [] (List.replicate n (-1)) 0 → chg (elR u) (elC u) σ σ' → post (.inl none) σ') : Tr Ls N 36 0 [some (mP (some u)), some (mI (n : Int)), none] [] σ post := by
  iterate 1 (refine tr_mv rfl (fun _ => rfl) ?_)
  refine tr_gr rfl (L_O hu) (by decide) (L_p0 hu) ?_
  refine tr_clear (L_r0 hu) rfl rfl ?_
  iterate 1 (refine tr_mv rfl (fun _ => rfl) ?_)
  refine tr_gr rfl (L_O hu) (by decide) (L_p1 hu) ?_
  refine tr_clear (L_r1 hu) rfl rfl ?_
  iterate 1 (refine tr_mv rfl (fun _ => rfl) ?_)
  refine tr_gr rfl (L_O hu) (by decide) (L_p2 hu) ?_
  refine tr_clear (L_r2 hu) rfl rfl ?_
  iterate 1 (refine tr_mv rfl (fun _ => rfl) ?_)
  refine tr_gr rfl (L_O hu) (by decide) (L_p3 hu) ?_
  refine tr_clear (L_r3 hu) rfl rfl ?_
  iterate 1 (refine tr_mv rfl (fun _ => rfl) ?_)
  refine tr_gr rfl (L_O hu) (by decide) (L_p4 hu) ?_
  refine tr_clear (L_r4 hu) rfl rfl ?_
  iterate 2 (refine tr_mv rfl (fun _ => rfl) ?_)
  refine s_36_loop hu n hn n 0 _ (by omega) (kd := σ.2 u 5) ⟨?_, ?_, ?_, ?_, ?_, rfl⟩ (fun σ' g1 g2 => K σ' g1 (((((chg.rf.setR ⟨by omega, by omega⟩).setR ⟨by omega, by omega⟩).setR ⟨by omega, by omega⟩).setR ⟨by omega, by omega⟩).setR ⟨by omega, by omega⟩ |>.tr g2))
  · rw [setR_ne _ _ (by omega), setR_ne _ _ (by omega), setR_ne _ _ (by omega), setR_ne _ _ (by omega), setR_same]
    rfl
  · rw [setR_ne _ _ (by omega), setR_ne _ _ (by omega), setR_ne _ _ (by omega), setR_same]
    rfl
  · rw [setR_ne _ _ (by omega), setR_ne _ _ (by omega), setR_same]
    rfl
  · rw [setR_ne _ _ (by omega), setR_same]
    rfl
  · rw [setR_same]
    rfl
/-- a mark's kind -/
def mkK (kd : Int) : Int := if kd = 0 then 0 else 2
theorem s_39 (hu : isEl u) (hS : elIs u σ els tk kd) (hl : els.length < 93) (hkd : in32 kd) (hx : isMrk x) {p : Nat} (hp : p < 100) (K : ∀ σ', elIs u σ' (els ++ [(0, x - 22, 1, mkK kd)]) (tk.set p (p : Int)) (mkK kd) → chg (elR u) (elC u) σ σ' → post (.inl none) σ') : Tr Ls N 39 0 [some (mP (some u)), some (mI x), some (mI (p : Int))] [] σ post := by
  have key : ∀ w, w = mkK kd → in32 w → Tr Ls N 39 13 [some (mP (some u)), some (mI x), some (mI (p : Int))] [mI w, mP (some u)] σ post := by
    intro w e hw
    refine tr_pi rfl (Or.inl rfl) (L_O hu) (by decide) (L_c hu) (L_n5 hu) ?_
    repeat (refine tr_mv rfl (fun _ => rfl) ?_)
    refine tr_vc (q := u) rfl (L_O hu) rfl rfl rfl (s_38 (p := p) (d := 1) hu (by omega) (elIs_setK hu hS) (by omega) rfl (by omega) (fun σ1 g1 g2 => ?_))
    repeat (refine tr_mv rfl (fun _ => rfl) ?_)
    refine tr_vc (q := u) rfl (L_O hu) rfl rfl rfl (s_37 hu g1 hl (by omega) (by omega) (by omega) hw (fun σ2 g3 g4 => ?_))
    refine tr_ret rfl (fun _ => rfl) (K σ2 ?_ (((chg.rf.setF ⟨rfl, rfl⟩).tr g2).tr g4))
    rw [← e]
    have e2 : x - 24 + 2 = x - 22 := by omega
    rw [e2] at g3
    exact g3
  iterate 2 (refine tr_mv rfl (fun _ => rfl) ?_)
  refine tr_gi rfl (by decide) (L_O hu) (by decide) (L_c hu) (L_n5 hu) ?_
  rw [hS.2.2.2.2.2]
  refine tr_if2 rfl (m32_of (by omega)) (fun c1 => ?_) (fun c1 => ?_)
  · iterate 1 (refine tr_mv rfl (fun _ => rfl) ?_)
    exact key 2 (by unfold mkK; rw [if_neg c1]) (by omega)
  · iterate 2 (refine tr_mv rfl (fun _ => rfl) ?_)
    exact key 0 (by unfold mkK; rw [if_pos (Decidable.byContradiction c1)]) (by omega)
end ELEM
