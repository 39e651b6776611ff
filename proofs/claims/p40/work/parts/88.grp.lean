/-! Groups of locators: the class's. -/
abbrev Gp : Type := Int × Int × Int
def rk (s : Int) : Int := if s = 2 then 2 else 1 - s
/-- one page more, groups told backwards -/
def addR (rg : List Gp) (c : Int) : List Gp := match rg with
  | [] => [(rk (c / 1000), c % 1000, c % 1000)]
  | (s, f, l) :: r => if s = rk (c / 1000) ∧ l + 1 = c % 1000 then (s, f, c % 1000) :: r else (rk (c / 1000), c % 1000, c % 1000) :: (s, f, l) :: r
/-- how many from the beginning are plain and begin at most at the page w -/
def cntP (w : Int) : List Gp → Nat
  | [] => 0
  | g :: gs => if g.1 = 0 ∧ g.2.1 ≤ w then cntP w gs + 1 else 0
/-- from the first on: passim, or not -/
def jn1 : List Gp → List Gp
  | [] => []
  | g :: gs => if 4 ≤ cntP (g.2.1 + 9) (g :: gs) then (3, g.2.1, ((g :: gs).getD (cntP (g.2.1 + 9) (g :: gs) - 1) (0, 0, 0)).2.2) :: gs.drop (cntP (g.2.1 + 9) (g :: gs) - 1) else g :: gs
def jnA : Nat → List Gp → List Gp
  | 0, l => l
  | d + 1, l => match jn1 l with
    | [] => []
    | g :: gs => g :: jnA d gs
def grpL (L : List Int) : List Gp := jnA (L.foldl addR []).length (L.foldl addR []).reverse
def gpIs (σ : Sg) (gs : List Gp) : Prop := σ.1 147 = gs.map (fun g => g.1) ∧ σ.1 149 = gs.map (fun g => g.2.1) ∧ σ.1 151 = gs.map (fun g => g.2.2)
abbrev gpR (a : Nat) : Prop := a = 147 ∨ a = 149 ∨ a = 151
/-- codes of locators on the class's side -/
abbrev okLc (c : Int) : Prop := 0 ≤ c ∧ c < 3000 ∧ 1 ≤ c % 1000
theorem cntP_le (w : Int) : ∀ (l : List Gp), cntP w l ≤ l.length
  | [] => Nat.le_refl _
  | g :: gs => by
    unfold cntP
    have := cntP_le w gs
    split
    · simpa using this
    · simp
theorem jn1_len : ∀ (l : List Gp), (jn1 l).length ≤ l.length ∧ (l ≠ [] → jn1 l ≠ [])
  | [] => ⟨Nat.le_refl _, fun h => absurd rfl h⟩
  | g :: gs => by
    by_cases c : 4 ≤ cntP (g.2.1 + 9) (g :: gs)
    · have e : jn1 (g :: gs) = (3, g.2.1, ((g :: gs).getD (cntP (g.2.1 + 9) (g :: gs) - 1) (0, 0, 0)).2.2) :: gs.drop (cntP (g.2.1 + 9) (g :: gs) - 1) := if_pos c
      rw [e]
      refine ⟨?_, fun _ => by simp⟩
      simp only [List.length_cons, List.length_drop]
      omega
    · have e : jn1 (g :: gs) = g :: gs := if_neg c
      rw [e]
      exact ⟨Nat.le_refl _, fun _ => by simp⟩
theorem addR_len (rg : List Gp) (c : Int) : (addR rg c).length ≤ rg.length + 1 := by
  unfold addR
  split
  · simp
  · split <;> simp
theorem addRs_len : ∀ (L : List Int) (rg : List Gp), (L.foldl addR rg).length ≤ rg.length + L.length
  | [], rg => by simp
  | c :: L, rg => by
    have h1 := addRs_len L (addR rg c)
    have h2 := addR_len rg c
    simp only [List.foldl_cons, List.length_cons]
    omega
section GRP
variable {Ls N k pc n n' nn b c t a q kd w d p X T : Nat} {L L0 : mLs} {st r as : List mV} {h h' : mH} {σ σ' σ'' : Sg} {post : tP} {x y z x' y' i i' s v m u lv : Int} {xs ys ss : List Int} {e : mE} {C : Nat → Nat → Prop} {R : Nat → Prop} {gs rg : List Gp}
theorem r_147 : isRow 147 10 := ⟨by decide, by decide +kernel, by decide +kernel⟩
theorem r_149 : isRow 149 10 := ⟨by decide, by decide +kernel, by decide +kernel⟩
theorem r_151 : isRow 151 10 := ⟨by decide, by decide +kernel, by decide +kernel⟩
theorem rk_in (h : 0 ≤ x ∧ x ≤ 2) : 0 ≤ rk x ∧ rk x ≤ 2 := by
  unfold rk
  split <;> omega
theorem s_60 (hx : in32 x) (K : post (.inl (some (mI (rk x)))) σ) : Tr Ls N 60 0 [some (mI x)] [] σ post := by
  unfold rk at K
  iterate 2 (refine tr_mv rfl (fun _ => rfl) ?_)
  refine tr_cmp2 rfl (m32_of (by omega)) (m32_of (by omega)) (fun c1 => ?_) (fun c1 => ?_)
  · rw [if_neg c1] at K
    iterate 3 (refine tr_mv rfl (fun _ => rfl) ?_)
    exact tr_ri rfl rfl K
  · rw [if_pos (Decidable.byContradiction c1)] at K
    iterate 2 (refine tr_mv rfl (fun _ => rfl) ?_)
    exact tr_ri rfl rfl K
theorem s_61 (hy : in32 y) (K : post (.inl (some (mI (1000 * rk y + x)))) σ) : Tr Ls N 61 0 [some (mI x), some (mI y)] [] σ post := by
  iterate 2 (refine tr_mv rfl (fun _ => rfl) ?_)
  refine tr_stat rfl rfl rfl (s_60 hy ?_)
  iterate 3 (refine tr_mv rfl (fun _ => rfl) ?_)
  exact tr_ri rfl rfl K
theorem s_62 (hx : 0 ≤ x ∧ x < 2147483648) (K : post (.inl (some (mI (x % 1000)))) σ) : Tr Ls N 62 0 [some (mI x)] [] σ post := by
  repeat (first | (refine tr_rem ?_ ?_ rfl ?_; omega; omega) | (refine tr_div ?_ ?_ rfl ?_; omega; omega) | refine tr_mv rfl (fun _ => rfl) ?_ | refine tr_gr rfl ⟨by decide, rfl⟩ (by decide) rfl ?_ | refine tr_gi rfl (by decide) ⟨by decide, rfl⟩ (by decide) rfl rfl ?_ | refine tr_gr rfl (by assumption) (by decide) (by assumption) ?_ | refine tr_gi rfl (by decide) (by assumption) (by decide) (by assumption) (by assumption) ?_)
  exact tr_ri rfl rfl K
theorem s_63 (hx : 0 ≤ x ∧ x < 2147483648) (K : post (.inl (some (mI (rk (x / 1000))))) σ) : Tr Ls N 63 0 [some (mI x)] [] σ post := by
  repeat (first | (refine tr_rem ?_ ?_ rfl ?_; omega; omega) | (refine tr_div ?_ ?_ rfl ?_; omega; omega) | refine tr_mv rfl (fun _ => rfl) ?_ | refine tr_gr rfl ⟨by decide, rfl⟩ (by decide) rfl ?_ | refine tr_gi rfl (by decide) ⟨by decide, rfl⟩ (by decide) rfl rfl ?_ | refine tr_gr rfl (by assumption) (by decide) (by assumption) ?_ | refine tr_gi rfl (by decide) (by assumption) (by decide) (by assumption) (by assumption) ?_)
  refine tr_stat rfl rfl rfl (s_60 (by omega) ?_)
  exact tr_ri rfl rfl K
theorem gp_last {f : Gp → Int} {g : Gp} (e : rg = g :: gs) : rget (rg.reverse.map f) ((rg.length : Int) - 1) = f g := by
  rw [e, show (g :: gs).reverse.map f = (gs.reverse.map f) ++ f g :: [] by simp]
  exact rget_mid (by simp)
theorem gp_setlast {f : Gp → Int} {g : Gp} (e : rg = g :: gs) : rset (rg.reverse.map f) ((rg.length : Int) - 1) v = gs.reverse.map f ++ [v] := by
  rw [e, show (g :: gs).reverse.map f = (gs.reverse.map f) ++ f g :: [] by simp]
  exact rset_mid (by simp)
theorem s_75 (hG : gpIs σ rg.reverse) (hl : rg.length < 10) {c : Int} (hc : okLc c) (K : ∀ σ', gpIs σ' (addR rg c).reverse → chg gpR noC σ σ' → post (.inl none) σ') : Tr Ls N 75 0 [some (mP (some 146)), some (mI (rk (c / 1000))), some (mI (c % 1000)), none] [] σ post := by
  refine tr_fact fun ⟨_, hr⟩ => ?_
  have i1 := rget_in (rep_in hr r_147) ((rg.length : Int) - 1)
  have i3 := rget_in (rep_in hr r_151) ((rg.length : Int) - 1)
  have hki := rk_in (x := c / 1000) (by omega)
  obtain ⟨g1, g2, g3⟩ := hG
  rw [g1] at i1
  rw [g3] at i3
  unfold addR at K
  repeat (first | refine tr_gr rfl ⟨by decide, rfl⟩ (by decide) rfl ?_ | refine tr_gi rfl (by decide) ⟨by decide, rfl⟩ (by decide) rfl rfl ?_ | refine tr_gr rfl (by assumption) (by decide) (by assumption) ?_ | refine tr_gi rfl (by decide) (by assumption) (by decide) (by assumption) (by assumption) ?_ | (refine tr_rem ?_ ?_ rfl ?_; omega; omega) | (refine tr_div ?_ ?_ rfl ?_; omega; omega) | refine tr_mv rfl (fun _ => rfl) ?_ | refine tr_ia2 (m32_of (by omega)) (by omega) rfl (fun _ => rfl) rfl (by decide) (by decide) (fun _ => rfl) ?_ | refine tr_size (by assumption) rfl rfl ?_ | refine tr_at2 (by assumption) (m32_of (by omega)) rfl rfl ?_)
  refine tr_size r_147 rfl rfl ?_
  rw [g1, show ((rg.reverse.map (fun g => g.1)).length : Int) = (rg.length : Int) by simp]
  repeat (first | refine tr_gr rfl ⟨by decide, rfl⟩ (by decide) rfl ?_ | refine tr_gi rfl (by decide) ⟨by decide, rfl⟩ (by decide) rfl rfl ?_ | refine tr_gr rfl (by assumption) (by decide) (by assumption) ?_ | refine tr_gi rfl (by decide) (by assumption) (by decide) (by assumption) (by assumption) ?_ | (refine tr_rem ?_ ?_ rfl ?_; omega; omega) | (refine tr_div ?_ ?_ rfl ?_; omega; omega) | refine tr_mv rfl (fun _ => rfl) ?_ | refine tr_ia2 (m32_of (by omega)) (by omega) rfl (fun _ => rfl) rfl (by decide) (by decide) (fun _ => rfl) ?_ | refine tr_size (by assumption) rfl rfl ?_ | refine tr_at2 (by assumption) (m32_of (by omega)) rfl rfl ?_)
  refine tr_at2 r_147 (m32_of (by omega)) rfl rfl ?_
  rw [g1]
  -- a new group
  have h46 : (∀ σ', gpIs σ' ((rk (c / 1000), c % 1000, c % 1000) :: rg).reverse → chg gpR noC σ σ' → post (.inl none) σ') → Tr Ls N 75 46 [some (mP (some 146)), some (mI (rk (c / 1000))), some (mI (c % 1000)), some (mI ((rg.length : Int) - 1))] [] σ post := by
    intro K'
    repeat (first | refine tr_gr rfl ⟨by decide, rfl⟩ (by decide) rfl ?_ | refine tr_gi rfl (by decide) ⟨by decide, rfl⟩ (by decide) rfl rfl ?_ | refine tr_gr rfl (by assumption) (by decide) (by assumption) ?_ | refine tr_gi rfl (by decide) (by assumption) (by decide) (by assumption) (by assumption) ?_ | (refine tr_rem ?_ ?_ rfl ?_; omega; omega) | (refine tr_div ?_ ?_ rfl ?_; omega; omega) | refine tr_mv rfl (fun _ => rfl) ?_ | refine tr_ia2 (m32_of (by omega)) (by omega) rfl (fun _ => rfl) rfl (by decide) (by decide) (fun _ => rfl) ?_ | refine tr_size (by assumption) rfl rfl ?_ | refine tr_at2 (by assumption) (m32_of (by omega)) rfl rfl ?_)
    refine tr_put r_147 (by omega) rfl rfl ?_
    rw [g1, rput_lt (by simp; exact hl)]
    repeat (first | refine tr_gr rfl ⟨by decide, rfl⟩ (by decide) rfl ?_ | refine tr_gi rfl (by decide) ⟨by decide, rfl⟩ (by decide) rfl rfl ?_ | refine tr_gr rfl (by assumption) (by decide) (by assumption) ?_ | refine tr_gi rfl (by decide) (by assumption) (by decide) (by assumption) (by assumption) ?_ | (refine tr_rem ?_ ?_ rfl ?_; omega; omega) | (refine tr_div ?_ ?_ rfl ?_; omega; omega) | refine tr_mv rfl (fun _ => rfl) ?_ | refine tr_ia2 (m32_of (by omega)) (by omega) rfl (fun _ => rfl) rfl (by decide) (by decide) (fun _ => rfl) ?_ | refine tr_size (by assumption) rfl rfl ?_ | refine tr_at2 (by assumption) (m32_of (by omega)) rfl rfl ?_)
    refine tr_put r_149 (by omega) rfl rfl ?_
    rw [setR_ne _ _ (by decide), g2, rput_lt (by simp; exact hl)]
    repeat (first | refine tr_gr rfl ⟨by decide, rfl⟩ (by decide) rfl ?_ | refine tr_gi rfl (by decide) ⟨by decide, rfl⟩ (by decide) rfl rfl ?_ | refine tr_gr rfl (by assumption) (by decide) (by assumption) ?_ | refine tr_gi rfl (by decide) (by assumption) (by decide) (by assumption) (by assumption) ?_ | (refine tr_rem ?_ ?_ rfl ?_; omega; omega) | (refine tr_div ?_ ?_ rfl ?_; omega; omega) | refine tr_mv rfl (fun _ => rfl) ?_ | refine tr_ia2 (m32_of (by omega)) (by omega) rfl (fun _ => rfl) rfl (by decide) (by decide) (fun _ => rfl) ?_ | refine tr_size (by assumption) rfl rfl ?_ | refine tr_at2 (by assumption) (m32_of (by omega)) rfl rfl ?_)
    refine tr_put r_151 (by omega) rfl rfl ?_
    rw [setR_ne _ _ (by decide), setR_ne _ _ (by decide), g3, rput_lt (by simp; exact hl)]
    refine tr_ret rfl (fun _ => rfl) (K' _ ⟨?_, ?_, ?_⟩ (((chg.rf.setR (Or.inl rfl)).setR (Or.inr (Or.inl rfl))).setR (Or.inr (Or.inr rfl))))
    · rw [setR_ne _ _ (by decide), setR_ne _ _ (by decide), setR_same]
      simp
    · rw [setR_ne _ _ (by decide), setR_same]
      simp
    · rw [setR_same]
      simp
  cases hrg : rg with
  | nil =>
    rw [hrg] at K h46
    have e0 : rget (([] : List Gp).reverse.map (fun g => g.1)) (((([] : List Gp).length : Nat) : Int) - 1) = -1 := by
      unfold rget
      rw [if_neg (by simp)]
    rw [e0]
    iterate 1 (refine tr_mv rfl (fun _ => rfl) ?_)
    refine tr_cmp2 rfl (m32_of (x := -1) ⟨by decide, by decide⟩) (m32_of (by omega)) (fun _ => ?_) (fun c9 => absurd (show (-1 : Int) ≠ rk (c / 1000) by omega) c9)
    exact h46 K
  | cons G r =>
    obtain ⟨s0, f0, l0⟩ := G
    have e1 := gp_last (f := fun g => g.1) hrg
    have e3 := gp_last (f := fun g => g.2.2) hrg
    rw [← hrg, e1]
    rw [e1] at i1
    rw [e3] at i3
    rw [hrg] at K
    iterate 1 (refine tr_mv rfl (fun _ => rfl) ?_)
    refine tr_cmp2 rfl (m32_of i1) (m32_of (by omega)) (fun c1 => ?_) (fun c1 => ?_)
    · have c1 : s0 ≠ rk (c / 1000) := c1
      dsimp only at K
      rw [if_neg (fun g => c1 g.1), ← hrg] at K
      exact h46 K
    · have c1 : s0 = rk (c / 1000) := Decidable.byContradiction c1
      have hl0 : -100000 < l0 ∧ l0 < 2147483647 ∨ ¬ (-100000 < l0 ∧ l0 < 2147483647) := Decidable.em _
      repeat (first | refine tr_gr rfl ⟨by decide, rfl⟩ (by decide) rfl ?_ | refine tr_gi rfl (by decide) ⟨by decide, rfl⟩ (by decide) rfl rfl ?_ | refine tr_gr rfl (by assumption) (by decide) (by assumption) ?_ | refine tr_gi rfl (by decide) (by assumption) (by decide) (by assumption) (by assumption) ?_ | (refine tr_rem ?_ ?_ rfl ?_; omega; omega) | (refine tr_div ?_ ?_ rfl ?_; omega; omega) | refine tr_mv rfl (fun _ => rfl) ?_ | refine tr_ia2 (m32_of (by omega)) (by omega) rfl (fun _ => rfl) rfl (by decide) (by decide) (fun _ => rfl) ?_ | refine tr_size (by assumption) rfl rfl ?_ | refine tr_at2 (by assumption) (m32_of (by omega)) rfl rfl ?_)
      refine tr_at2 r_151 (m32_of (by omega)) rfl rfl ?_
      rw [g3, e3]
      iterate 3 (refine tr_mv rfl (fun _ => rfl) ?_)
      dsimp only at K
      refine tr_cmp rfl (fun c2 => ?_) (fun c2 => ?_)
      · have c2 : m32 (l0 + 1) ≠ m32 (c % 1000) := c2
        rw [if_neg (fun g => c2 (by rw [g.2])), ← hrg] at K
        exact h46 K
      · have c2 : m32 (l0 + 1) = m32 (c % 1000) := Decidable.byContradiction c2
        have c3 : l0 + 1 = c % 1000 := by
          rw [m32_of (show in32 (c % 1000) by omega)] at c2
          by_cases g : l0 = 2147483647
          · rw [g, show m32 (2147483647 + 1) = -2147483648 from rfl] at c2
            omega
          · have i3' : in32 l0 := i3
            rw [m32_of (show in32 (l0 + 1) by omega)] at c2
            exact c2
        rw [if_pos ⟨c1, c3⟩] at K
        repeat (first | refine tr_gr rfl ⟨by decide, rfl⟩ (by decide) rfl ?_ | refine tr_gi rfl (by decide) ⟨by decide, rfl⟩ (by decide) rfl rfl ?_ | refine tr_gr rfl (by assumption) (by decide) (by assumption) ?_ | refine tr_gi rfl (by decide) (by assumption) (by decide) (by assumption) (by assumption) ?_ | (refine tr_rem ?_ ?_ rfl ?_; omega; omega) | (refine tr_div ?_ ?_ rfl ?_; omega; omega) | refine tr_mv rfl (fun _ => rfl) ?_ | refine tr_ia2 (m32_of (by omega)) (by omega) rfl (fun _ => rfl) rfl (by decide) (by decide) (fun _ => rfl) ?_ | refine tr_size (by assumption) rfl rfl ?_ | refine tr_at2 (by assumption) (m32_of (by omega)) rfl rfl ?_)
        refine tr_set2 r_151 (m32_of (by omega)) (by omega) rfl rfl ?_
        rw [g3, gp_setlast hrg]
        refine tr_ret rfl (fun _ => rfl) (K _ ⟨?_, ?_, ?_⟩ (chg.rf.setR (Or.inr (Or.inr rfl))))
        · rw [setR_ne _ _ (by decide), g1, hrg]
          simp
        · rw [setR_ne _ _ (by decide), g2, hrg]
          simp
        · rw [setR_same]
          simp
end GRP
