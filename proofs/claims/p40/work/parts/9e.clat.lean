/-! The class: locatorAt; an entry's references. -/
section CLAT
variable {Ls N k pc n n' nn b c t a q kd w d p X T : Nat} {L0 : mLs} {st r as : List mV} {h h' : mH} {σ σ' σ'' : Sg} {post : tP} {x y z x' y' i i' s v m u lv : Int} {xs ys ss L M A B : List Int} {e : mE} {C : Nat → Nat → Prop} {R : Nat → Prop} {tx : List (List Int)} {en : List EnT}
theorem s_159 (hE : en.length ≤ 24) (cE : cEn σ en) (hok : ∀ e ∈ en, okLoc (enL e) (enM e)) (hi : in32 i) (hx : in32 x)
    (K1 : ¬ ((0 ≤ i ∧ i < (en.length : Int)) ∧ 0 ≤ x) → post (.inr 0) σ)
    (K2 : ∀ (a : Nat) (σ' : Sg), i = (a : Int) → a < en.length → 0 ≤ x → ¬ x < ((grpL (enL (en.getD a enD))).length : Int) → chg gpR noC σ σ' → post (.inl (some (mI (-1)))) σ')
    (K3 : ∀ (a j : Nat) (σ' : Sg), i = (a : Int) → a < en.length → x = (j : Int) → j < (grpL (enL (en.getD a enD))).length → chg gpR noC σ σ' → post (.inl (some (mI (gnum ((grpL (enL (en.getD a enD))).getD j (0, 0, 0)))))) σ') :
    Tr Ls (N + 1) 159 0 [some (mP (some 2)), some (mI i), some (mI x)] [] σ post := by
  iterate 2 (refine tr_mv rfl (fun _ => rfl) ?_)
  refine tr_vc (q := 2) rfl ⟨by decide, by decide +kernel⟩ rfl rfl rfl (s_167 hi (by rw [cE.1]; omega) ?_)
  rw [cE.1]
  first | refine tr_ib rfl (fun c1 => ?_) (fun c1 => ?_) | refine tr_ibn rfl (fun c1 => ?_) (fun c1 => ?_)
  · exact tr_throw rfl (K1 (fun g => c1 g.1))
  · iterate 1 (refine tr_mv rfl (fun _ => rfl) ?_)
    refine tr_if2 rfl (m32_of (by omega)) (fun c2 => ?_) (fun c2 => ?_)
    · have c3 : 0 ≤ x := c2
      obtain ⟨a, rfl⟩ : ∃ a : Nat, i = (a : Int) := ⟨i.toNat, by omega⟩
      have ha : a < en.length := by omega
      have hk := hok _ (en_mem ha)
      have hL : σ.1 ((360 + 5 * a) + 1) = enL (en.getD a enD) := (cE.2.2 a (by omega)).2.2.2.2
      have ht := e_E (i := a) (by omega)
      have hgl := grpL_len hk.1 hk.2.1
      have hl10 := hk.2.2.2.2.1
      repeat (first | refine tr_gr rfl ⟨by decide, rfl⟩ (by decide) rfl ?_ | refine tr_gi rfl (by decide) ⟨by decide, rfl⟩ (by decide) rfl rfl ?_ | refine tr_gr rfl (by assumption) (by decide) (by assumption) ?_ | refine tr_gi rfl (by decide) (by assumption) (by decide) (by assumption) (by assumption) ?_ | (refine tr_rem ?_ ?_ rfl ?_; omega; omega) | (refine tr_div ?_ ?_ rfl ?_; omega; omega) | refine tr_mv rfl (fun _ => rfl) ?_ | refine tr_ia2 (m32_of (by omega)) (by omega) rfl (fun _ => rfl) rfl (by decide) (by decide) (fun _ => rfl) ?_ | refine tr_size (by assumption) rfl rfl ?_ | refine tr_at2 (by assumption) (m32_of (by omega)) rfl rfl ?_)
      refine tr_vc (q := 2) rfl ⟨by decide, by decide +kernel⟩ rfl rfl rfl (s_171 (p := a) (by omega) ?_)
      refine tr_vc (q := (360 + 5 * a)) rfl (E_O ht) rfl rfl rfl (s_59 ht ?_)
      refine tr_vc (q := 146) rfl ⟨by decide, by decide +kernel⟩ rfl rfl rfl (s_74 (E_r5 ht) (by omega) hL hk.2.1 hl10 (fun σ2 g1 g2 => ?_))
      repeat (first | refine tr_gr rfl ⟨by decide, rfl⟩ (by decide) rfl ?_ | refine tr_gi rfl (by decide) ⟨by decide, rfl⟩ (by decide) rfl rfl ?_ | refine tr_gr rfl (by assumption) (by decide) (by assumption) ?_ | refine tr_gi rfl (by decide) (by assumption) (by decide) (by assumption) (by assumption) ?_ | (refine tr_rem ?_ ?_ rfl ?_; omega; omega) | (refine tr_div ?_ ?_ rfl ?_; omega; omega) | refine tr_mv rfl (fun _ => rfl) ?_ | refine tr_ia2 (m32_of (by omega)) (by omega) rfl (fun _ => rfl) rfl (by decide) (by decide) (fun _ => rfl) ?_ | refine tr_size (by assumption) rfl rfl ?_ | refine tr_at2 (by assumption) (m32_of (by omega)) rfl rfl ?_)
      refine tr_vc (q := 146) rfl ⟨by decide, by decide +kernel⟩ rfl rfl rfl (s_73 g1 (by omega) hx (fun g => ?_) (fun j ej hj => ?_))
      · exact tr_ri rfl rfl (K2 a σ2 rfl ha c3 (fun g3 => g ⟨c3, g3⟩) g2)
      · exact tr_ri rfl rfl (K3 a j σ2 rfl ha ej hj g2)
    · have c3 : ¬ 0 ≤ x := c2
      exact tr_throw rfl (K1 (fun g => c3 g.2))
theorem s_68 (ht : isE t) {m : Nat} (hs : σ.2 t 8 = (m : Int)) (hm : m < 2 ^ 24) (hp : p < 24) (K : post (.inl (some (mI (b2 (m / 2 ^ p % 2 = 1))))) σ) : Tr Ls N 68 0 [some (mP (some t)), some (mI (p : Int))] [] σ post := by
  iterate 1 (refine tr_mv rfl (fun _ => rfl) ?_)
  refine tr_gi rfl (by decide) (E_O ht) (by decide) (E_c ht) (E_n ht).2.2.2.2.2.2 ?_
  rw [hs]
  iterate 2 (refine tr_mv rfl (fun _ => rfl) ?_)
  rw [w_shr (show m < 2 ^ 31 by omega) (show p < 31 by omega)]
  iterate 1 (refine tr_mv rfl (fun _ => rfl) ?_)
  refine tr_mv rfl (fun _ => rfl) ?_
  rw [w_a1 (Nat.lt_of_le_of_lt (Nat.div_le_self _ _) (show m < 2 ^ 31 by omega))]
  iterate 1 (refine tr_mv rfl (fun _ => rfl) ?_)
  have h2 : m / 2 ^ p % 2 < 2 := Nat.mod_lt _ (by decide)
  refine tr_cmp2 rfl (m32_of (by omega)) (m32_of (by omega)) (fun c1 => ?_) (fun c1 => ?_)
  · iterate 1 (refine tr_mv rfl (fun _ => rfl) ?_)
    exact tr_rb0 rfl (fun g => c1 (by rw [g]; rfl)) K
  · iterate 2 (refine tr_mv rfl (fun _ => rfl) ?_)
    exact tr_rb1 rfl (by omega) K
theorem s_70 (ht : isE t) {m : Nat} (hs : σ.2 t 8 = (m : Int)) (hm : m < 2 ^ 24) (hp : p < 24) (hy : y = 0 ∨ y = 1) (K1 : y = 1 → post (.inl none) (setF σ t 8 ((m ||| 2 ^ p : Nat) : Int))) (K0 : y = 0 → post (.inl none) (setF σ t 7 (p : Int))) : Tr Ls N 70 0 [some (mP (some t)), some (mI (p : Int)), some (mI y)] [] σ post := by
  iterate 1 (refine tr_mv rfl (fun _ => rfl) ?_)
  refine tr_if2 rfl (m32_of (by omega)) (fun c1 => ?_) (fun c1 => ?_)
  · have c2 : y = 0 := c1
    iterate 2 (refine tr_mv rfl (fun _ => rfl) ?_)
    refine tr_pi rfl (Or.inl rfl) (E_O ht) (by decide) (E_c ht) (E_n ht).2.2.2.2.2.1 ?_
    exact tr_ret rfl (fun _ => rfl) (K0 c2)
  · have c2 : ¬ y = 0 := c1
    have hpw : 2 ^ p < 2 ^ 24 := Nat.pow_lt_pow_right (by decide) hp
    iterate 2 (refine tr_mv rfl (fun _ => rfl) ?_)
    refine tr_gi rfl (by decide) (E_O ht) (by decide) (E_c ht) (E_n ht).2.2.2.2.2.2 ?_
    rw [hs]
    iterate 3 (refine tr_mv rfl (fun _ => rfl) ?_)
    rw [w_shl p (by omega)]
    iterate 1 (refine tr_mv rfl (fun _ => rfl) ?_)
    rw [w_or (show m < 2 ^ 30 by omega) (show 2 ^ p < 2 ^ 30 by omega)]
    refine tr_pi rfl (Or.inl rfl) (E_O ht) (by decide) (E_c ht) (E_n ht).2.2.2.2.2.2 ?_
    iterate 1 (refine tr_mv rfl (fun _ => rfl) ?_)
    exact tr_ret rfl (fun _ => rfl) (K1 (by omega))
end CLAT
