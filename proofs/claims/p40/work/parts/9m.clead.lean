/-! References that lead somewhere: the class's. -/
section CLEAD
variable {Ls N k pc n n' nn b c t a q kd w d p X T : Nat} {L0 : mLs} {st r as : List mV} {h h' : mH} {σ σ' σ'' : Sg} {post : tP} {x y z x' y' i i' s v m u lv : Int} {xs ys ss L M A B : List Int} {e : mE} {C : Nat → Nat → Prop} {R : Nat → Prop} {tx : List (List Int)} {en : List EnT}
theorem s_198 (hE : okEn tx en) (cE : cEn σ en) (ha : a < en.length) (K : post (.inl (some (mI (b2 (lcd en a))))) σ) : Tr Ls N 198 0 [some (mP (some 2)), some (mI (a : Int)), none, none] [] σ post := by
  have hE24 := hE.1
  have loop : ∀ (d j : Nat) (v3 : Option mV), j + d = en.length → (∀ k, k < j → ¬ hitL en a k) → Tr Ls N 198 2 [some (mP (some 2)), some (mI (a : Int)), some (mI (j : Int)), v3] [] σ post := by
    intro d
    induction d with
    | zero =>
      intro j v3 e hno
      iterate 2 (refine tr_mv rfl (fun _ => rfl) ?_)
      refine tr_gi rfl (by decide) ⟨by decide, by decide +kernel⟩ (by decide) (by decide +kernel) rfl ?_
      rw [cE.1]
      refine tr_cmp2 rfl (m32_of (by omega)) (m32_of (by omega)) (fun _ => ?_) (fun c9 => absurd (show (en.length : Int) ≤ (j : Int) by omega) c9)
      iterate 1 (refine tr_mv rfl (fun _ => rfl) ?_)
      refine tr_rb0 rfl (fun g => ?_) K
      obtain ⟨k, h1, h2⟩ := lcd_iff.mp g
      exact hno k (by omega) h2
    | succ d ih =>
      intro j v3 e hno
      have hj : j < en.length := by omega
      have ht := e_E (i := j) (by omega)
      have hpr := okPr_in hE j hj
      iterate 2 (refine tr_mv rfl (fun _ => rfl) ?_)
      refine tr_gi rfl (by decide) ⟨by decide, by decide +kernel⟩ (by decide) (by decide +kernel) rfl ?_
      rw [cE.1]
      refine tr_cmp2 rfl (m32_of (by omega)) (m32_of (by omega)) (fun c9 => absurd (show (en.length : Int) ≤ (j : Int) from c9) (by omega)) (fun _ => ?_)
      have next : ¬ hitL en a j → ∀ v3, Tr Ls N 198 53 [some (mP (some 2)), some (mI (a : Int)), some (mI (j : Int)), v3] [] σ post := by
        intro h1 v3
        iterate 2 (refine tr_mv rfl (fun _ => rfl) ?_)
        show Tr Ls N 198 2 [some (mP (some 2)), some (mI (a : Int)), some (mI ((j : Int) + 1)), v3] [] σ post
        rw [show (j : Int) + 1 = ((j + 1 : Nat) : Int) by omega]
        refine ih (j + 1) v3 (by omega) (fun k hk => ?_)
        by_cases g : k = j
        · rw [g]; exact h1
        · exact hno k (by omega)
      have own : (j = a ∨ prE en j = (a : Int)) → ∀ v3, Tr Ls N 198 27 [some (mP (some 2)), some (mI (a : Int)), some (mI (j : Int)), v3] [] σ post := by
        intro h1 v3
        iterate 7 (refine tr_mv rfl (fun _ => rfl) ?_)
        refine tr_vc (q := 2) rfl ⟨by decide, by decide +kernel⟩ rfl rfl rfl (s_171 (p := j) (by omega) ?_)
        refine tr_vc (q := (360 + 5 * j)) rfl (E_O ht) rfl rfl rfl (s_59 ht ?_)
        refine tr_isEmpty (E_r5 ht) rfl rfl ?_
        rw [(cE.2.2 j (by omega)).2.2.2.2]
        by_cases g : enL (en.getD j enD) = []
        · rw [if_pos g]
          iterate 1 (refine tr_mv rfl (fun _ => rfl) ?_)
          exact next (fun h2 => h2.2 g) _
        · rw [if_neg g]
          iterate 2 (refine tr_mv rfl (fun _ => rfl) ?_)
          exact tr_rb1 rfl (lcd_iff.mpr ⟨j, hj, h1, g⟩) K
      iterate 2 (refine tr_mv rfl (fun _ => rfl) ?_)
      refine tr_cmp2 rfl (m32_of (by omega)) (m32_of (by omega)) (fun c3 => ?_) (fun c3 => ?_)
      · have c4 : (j : Int) = (a : Int) := c3
        exact own (Or.inl (by omega)) _
      · have c4 : ¬ (j : Int) = (a : Int) := c3
        iterate 2 (refine tr_mv rfl (fun _ => rfl) ?_)
        refine tr_vc (q := 2) rfl ⟨by decide, by decide +kernel⟩ rfl rfl rfl (s_171 (p := j) (by omega) ?_)
        refine tr_vc (q := (360 + 5 * j)) rfl (E_O ht) rfl rfl rfl (s_51 ht ?_)
        rw [(cE.2.1 j hj).2.1, ← prE_iff]
        iterate 1 (refine tr_mv rfl (fun _ => rfl) ?_)
        refine tr_cmp2 rfl (m32_of (by omega)) (m32_of (by omega)) (fun c5 => ?_) (fun c5 => ?_)
        · have c6 : ¬ prE en j = (a : Int) := c5
          iterate 4 (refine tr_mv rfl (fun _ => rfl) ?_)
          exact next (fun h2 => by rcases h2.1 with g | g; exact c4 (by omega); exact c6 g) _
        · exact own (Or.inr (Decidable.of_not_not c5)) _
  iterate 2 (refine tr_mv rfl (fun _ => rfl) ?_)
  exact loop en.length 0 none (by omega) (fun k hk => absurd hk (Nat.not_lt_zero _))
theorem s_197 (hE : okEn tx en) (hR : okRf en) (cE : cEn σ en) (hx : -1 ≤ x ∧ x < (en.length : Int)) (K : post (.inl (some (mI (endE en x)))) σ) : Tr Ls N 197 0 [some (mP (some 2)), some (mI x), none, none] [] σ post := by
  have hE24 := hE.1
  have loop : ∀ (d j : Nat) (e : Int), j + d = en.length + 1 → (-1 ≤ e ∧ e < (en.length : Int)) → wlk en d e = endE en x → Tr Ls N 197 4 [some (mP (some 2)), some (mI x), some (mI e), some (mI (j : Int))] [] σ post := by
    intro d
    induction d with
    | zero =>
      intro j e ej he hw
      iterate 2 (refine tr_mv rfl (fun _ => rfl) ?_)
      refine tr_gi rfl (by decide) ⟨by decide, by decide +kernel⟩ (by decide) (by decide +kernel) rfl ?_
      rw [cE.1]
      refine tr_cmp2 rfl (m32_of (by omega)) (m32_of (by omega)) (fun _ => ?_) (fun c9 => absurd (show (en.length : Int) < (j : Int) by omega) c9)
      iterate 1 (refine tr_mv rfl (fun _ => rfl) ?_)
      exact tr_ri rfl hw K
    | succ d ih =>
      intro j e ej he hw
      iterate 2 (refine tr_mv rfl (fun _ => rfl) ?_)
      refine tr_gi rfl (by decide) ⟨by decide, by decide +kernel⟩ (by decide) (by decide +kernel) rfl ?_
      rw [cE.1]
      refine tr_cmp2 rfl (m32_of (by omega)) (m32_of (by omega)) (fun c9 => absurd (show (en.length : Int) < (j : Int) from c9) (by omega)) (fun _ => ?_)
      rw [show wlk en (d + 1) e = if e = -1 then -1 else if lcd en e.toNat then e else wlk en d (nxE en e) from rfl] at hw
      iterate 2 (refine tr_mv rfl (fun _ => rfl) ?_)
      refine tr_cmp2 rfl (m32_of (by omega)) (m32_of (by omega)) (fun c3 => ?_) (fun c3 => ?_)
      · have c4 : e = -1 := c3
        rw [if_pos c4] at hw
        iterate 1 (refine tr_mv rfl (fun _ => rfl) ?_)
        exact tr_ri rfl hw K
      · have c4 : ¬ e = -1 := c3
        rw [if_neg c4] at hw
        obtain ⟨a, rfl⟩ : ∃ a : Nat, e = (a : Int) := ⟨e.toNat, by omega⟩
        have ha : a < en.length := by omega
        rw [Int.toNat_natCast] at hw
        iterate 2 (refine tr_mv rfl (fun _ => rfl) ?_)
        refine tr_vc (q := 2) rfl ⟨by decide, by decide +kernel⟩ rfl rfl rfl (s_198 hE cE ha ?_)
        first | refine tr_ib rfl (fun c5 => ?_) (fun c5 => ?_) | refine tr_ibn rfl (fun c5 => ?_) (fun c5 => ?_)
        · rw [if_neg c5] at hw
          iterate 2 (refine tr_mv rfl (fun _ => rfl) ?_)
          refine tr_vc (q := 2) rfl ⟨by decide, by decide +kernel⟩ rfl rfl rfl (s_171 (p := a) (by omega) ?_)
          refine tr_vc (q := (360 + 5 * a)) rfl (E_O (e_E (by omega))) rfl rfl rfl (s_67 (e_E (by omega)) ?_)
          rw [(cE.2.2 a (by omega)).2.2.1]
          have hn : nxE en (a : Int) = enX (en.getD a enD) := if_neg c4
          have hn2 := nxE_in hR he
          rw [← hn]
          iterate 3 (refine tr_mv rfl (fun _ => rfl) ?_)
          show Tr Ls N 197 4 [some (mP (some 2)), some (mI x), some (mI (nxE en (a : Int))), some (mI ((j : Int) + 1))] [] σ post
          rw [show (j : Int) + 1 = ((j + 1 : Nat) : Int) by omega]
          exact ih (j + 1) _ (by omega) hn2 hw
        · rw [if_pos c5] at hw
          iterate 1 (refine tr_mv rfl (fun _ => rfl) ?_)
          exact tr_ri rfl hw K
  iterate 4 (refine tr_mv rfl (fun _ => rfl) ?_)
  exact loop (en.length + 1) 0 x (by omega) hx rfl
theorem s_199 (hE : okEn tx en) (hR : okRf en) (cE : cEn σ en) (hp : p < en.length) (K : post (.inl (some (mI (refE en p : Int)))) σ) : Tr Ls N 199 0 [some (mP (some 2)), some (mI (p : Int)), none, none] [] σ post := by
  have hE24 := hE.1
  have loop : ∀ (d j : Nat), j + d = en.length → Tr Ls N 199 4 [some (mP (some 2)), some (mI (p : Int)), some (mI (sumN (fun a => (if xE en a = (p : Int) then 1 else 0) + (if bE en a p then 1 else 0)) j : Int)), some (mI (j : Int))] [] σ post := by
    intro d
    induction d with
    | zero =>
      intro j e
      iterate 2 (refine tr_mv rfl (fun _ => rfl) ?_)
      refine tr_gi rfl (by decide) ⟨by decide, by decide +kernel⟩ (by decide) (by decide +kernel) rfl ?_
      rw [cE.1]
      refine tr_cmp2 rfl (m32_of (by omega)) (m32_of (by omega)) (fun _ => ?_) (fun c9 => absurd (show (en.length : Int) ≤ (j : Int) by omega) c9)
      iterate 1 (refine tr_mv rfl (fun _ => rfl) ?_)
      rw [show refE en p = sumN (fun a => (if xE en a = (p : Int) then 1 else 0) + (if bE en a p then 1 else 0)) j by rw [show j = en.length by omega]; rfl] at K
      exact tr_ri rfl rfl K
    | succ d ih =>
      intro j e
      have hj : j < en.length := by omega
      have ht := e_E (i := j) (by omega)
      have k := ih (j + 1) (by omega)
      rw [show sumN (fun a => (if xE en a = (p : Int) then 1 else 0) + (if bE en a p then 1 else 0)) (j + 1) = sumN (fun a => (if xE en a = (p : Int) then 1 else 0) + (if bE en a p then 1 else 0)) j + ((if xE en j = (p : Int) then 1 else 0) + (if bE en j p then 1 else 0)) from rfl] at k
      generalize sumN (fun a => (if xE en a = (p : Int) then 1 else 0) + (if bE en a p then 1 else 0)) j = acc at k ⊢
      have hx := (hR _ (en_mem hj)).1
      iterate 2 (refine tr_mv rfl (fun _ => rfl) ?_)
      refine tr_gi rfl (by decide) ⟨by decide, by decide +kernel⟩ (by decide) (by decide +kernel) rfl ?_
      rw [cE.1]
      refine tr_cmp2 rfl (m32_of (by omega)) (m32_of (by omega)) (fun c9 => absurd (show (en.length : Int) ≤ (j : Int) from c9) (by omega)) (fun _ => ?_)
      -- behind the first
      have t32 : ∀ v : Int, v = (acc : Int) + (if xE en j = (p : Int) then 1 else 0) → Tr Ls N 199 32 [some (mP (some 2)), some (mI (p : Int)), some (mI v), some (mI (j : Int))] [] σ post := by
        intro v hv
        iterate 3 (refine tr_mv rfl (fun _ => rfl) ?_)
        refine tr_vc (q := 2) rfl ⟨by decide, by decide +kernel⟩ rfl rfl rfl (s_171 (p := j) (by omega) ?_)
        iterate 1 (refine tr_mv rfl (fun _ => rfl) ?_)
        refine tr_vc (q := (360 + 5 * j)) rfl (E_O ht) rfl rfl rfl (s_68 ht (cE.2.2 j (by omega)).2.2.2.1 (hR.o24 hE24 (en_mem hj)) (by omega) ?_)
        first | refine tr_ib rfl (fun c3 => ?_) (fun c3 => ?_) | refine tr_ibn rfl (fun c3 => ?_) (fun c3 => ?_)
        · rw [if_neg (show ¬ bE en j p from c3)] at k
          iterate 4 (refine tr_mv rfl (fun _ => rfl) ?_)
          show Tr Ls N 199 55 [some (mP (some 2)), some (mI (p : Int)), some (mI (v + 0)), some (mI ((j : Int) + 1))] [] σ post
          iterate 1 (refine tr_mv rfl (fun _ => rfl) ?_)
          rw [hv, show (j : Int) + 1 = ((j + 1 : Nat) : Int) by omega, show (acc : Int) + (if xE en j = (p : Int) then 1 else 0) + 0 = ((acc + ((if xE en j = (p : Int) then 1 else 0) + 0) : Nat) : Int) by split <;> omega]
          exact k
        · rw [if_pos (show bE en j p from c3)] at k
          iterate 5 (refine tr_mv rfl (fun _ => rfl) ?_)
          show Tr Ls N 199 55 [some (mP (some 2)), some (mI (p : Int)), some (mI (v + 1)), some (mI ((j : Int) + 1))] [] σ post
          iterate 1 (refine tr_mv rfl (fun _ => rfl) ?_)
          rw [hv, show (j : Int) + 1 = ((j + 1 : Nat) : Int) by omega, show (acc : Int) + (if xE en j = (p : Int) then 1 else 0) + 1 = ((acc + ((if xE en j = (p : Int) then 1 else 0) + 1) : Nat) : Int) by split <;> omega]
          exact k
      iterate 3 (refine tr_mv rfl (fun _ => rfl) ?_)
      refine tr_vc (q := 2) rfl ⟨by decide, by decide +kernel⟩ rfl rfl rfl (s_171 (p := j) (by omega) ?_)
      refine tr_vc (q := (360 + 5 * j)) rfl (E_O ht) rfl rfl rfl (s_67 ht ?_)
      rw [(cE.2.2 j (by omega)).2.2.1]
      iterate 1 (refine tr_mv rfl (fun _ => rfl) ?_)
      refine tr_cmp2 rfl (m32_of (by omega)) (m32_of (by omega)) (fun c3 => ?_) (fun c3 => ?_)
      · have c4 : ¬ xE en j = (p : Int) := c3
        iterate 3 (refine tr_mv rfl (fun _ => rfl) ?_)
        exact t32 _ (by rw [if_neg c4])
      · have c4 : xE en j = (p : Int) := Decidable.of_not_not c3
        iterate 4 (refine tr_mv rfl (fun _ => rfl) ?_)
        exact t32 _ (by rw [if_pos c4])
  iterate 4 (refine tr_mv rfl (fun _ => rfl) ?_)
  exact loop en.length 0 (by omega)
theorem s_160 (hE : okEn tx en) (hR : okRf en) (cE : cEn σ en) (hi : in32 i) (K1 : ¬ (0 ≤ i ∧ i < (en.length : Int)) → post (.inr 0) σ) (K2 : (0 ≤ i ∧ i < (en.length : Int)) → post (.inl (some (mI (endE en i)))) σ) : Tr Ls (N + 1) 160 0 [some (mP (some 2)), some (mI i)] [] σ post := by
  have hE24 := hE.1
  iterate 2 (refine tr_mv rfl (fun _ => rfl) ?_)
  refine tr_vc (q := 2) rfl ⟨by decide, by decide +kernel⟩ rfl rfl rfl (s_167 hi (by rw [cE.1]; omega) ?_)
  rw [cE.1]
  first | refine tr_ib rfl (fun c1 => ?_) (fun c1 => ?_) | refine tr_ibn rfl (fun c1 => ?_) (fun c1 => ?_)
  · iterate 2 (refine tr_mv rfl (fun _ => rfl) ?_)
    refine tr_vc (q := 2) rfl ⟨by decide, by decide +kernel⟩ rfl rfl rfl (s_197 hE hR cE (by omega) ?_)
    exact tr_ri rfl rfl (K2 c1)
  · exact tr_throw rfl (K1 c1)
theorem s_161 (hE : okEn tx en) (hR : okRf en) (cE : cEn σ en) (K : post (.inl (some (mI (deadC en : Int)))) σ) : Tr Ls N 161 0 [some (mP (some 2)), none, none] [] σ post := by
  have hE24 := hE.1
  have loop : ∀ (d j : Nat), j + d = en.length → Tr Ls N 161 4 [some (mP (some 2)), some (mI (sumN (fun t => if endE en (t : Int) = -1 then refE en t else 0) j : Int)), some (mI (j : Int))] [] σ post := by
    intro d
    induction d with
    | zero =>
      intro j e
      iterate 2 (refine tr_mv rfl (fun _ => rfl) ?_)
      refine tr_gi rfl (by decide) ⟨by decide, by decide +kernel⟩ (by decide) (by decide +kernel) rfl ?_
      rw [cE.1]
      refine tr_cmp2 rfl (m32_of (by omega)) (m32_of (by omega)) (fun _ => ?_) (fun c9 => absurd (show (en.length : Int) ≤ (j : Int) by omega) c9)
      iterate 1 (refine tr_mv rfl (fun _ => rfl) ?_)
      rw [show deadC en = sumN (fun t => if endE en (t : Int) = -1 then refE en t else 0) j by rw [show j = en.length by omega]; rfl] at K
      exact tr_ri rfl rfl K
    | succ d ih =>
      intro j e
      have hj : j < en.length := by omega
      have k := ih (j + 1) (by omega)
      rw [show sumN (fun t => if endE en (t : Int) = -1 then refE en t else 0) (j + 1) = sumN (fun t => if endE en (t : Int) = -1 then refE en t else 0) j + (if endE en (j : Int) = -1 then refE en j else 0) from rfl] at k
      generalize sumN (fun t => if endE en (t : Int) = -1 then refE en t else 0) j = acc at k ⊢
      iterate 2 (refine tr_mv rfl (fun _ => rfl) ?_)
      refine tr_gi rfl (by decide) ⟨by decide, by decide +kernel⟩ (by decide) (by decide +kernel) rfl ?_
      rw [cE.1]
      refine tr_cmp2 rfl (m32_of (by omega)) (m32_of (by omega)) (fun c9 => absurd (show (en.length : Int) ≤ (j : Int) from c9) (by omega)) (fun _ => ?_)
      iterate 2 (refine tr_mv rfl (fun _ => rfl) ?_)
      refine tr_vc (q := 2) rfl ⟨by decide, by decide +kernel⟩ rfl rfl rfl (s_197 hE hR cE (x := (j : Int)) (by omega) ?_)
      have hin : -1 ≤ endE en (j : Int) ∧ endE en (j : Int) < 100 := by
        have : ∀ d (e : Int), (-1 ≤ e ∧ e < (en.length : Int)) → -1 ≤ wlk en d e ∧ wlk en d e < (en.length : Int) := by
          intro d
          induction d with
          | zero => intro e he; show (-1 : Int) ≤ -1 ∧ (-1 : Int) < _; omega
          | succ d ihd =>
            intro e he
            rw [show wlk en (d + 1) e = if e = -1 then -1 else if lcd en e.toNat then e else wlk en d (nxE en e) from rfl]
            split
            · omega
            · split
              · exact he
              · exact ihd _ (nxE_in hR he)
        have := this (en.length + 1) (j : Int) (by omega)
        show -1 ≤ wlk en (en.length + 1) (j : Int) ∧ wlk en (en.length + 1) (j : Int) < 100
        omega
      iterate 1 (refine tr_mv rfl (fun _ => rfl) ?_)
      refine tr_cmp2 rfl (m32_of (by omega)) (m32_of (by omega)) (fun c3 => ?_) (fun c3 => ?_)
      · have c4 : ¬ endE en (j : Int) = -1 := c3
        rw [if_neg c4] at k
        iterate 2 (refine tr_mv rfl (fun _ => rfl) ?_)
        show Tr Ls N 161 4 [some (mP (some 2)), some (mI (acc : Int)), some (mI ((j : Int) + 1))] [] σ post
        rw [show (j : Int) + 1 = ((j + 1 : Nat) : Int) by omega]
        exact k
      · have c4 : endE en (j : Int) = -1 := Decidable.of_not_not c3
        rw [if_pos c4] at k
        iterate 3 (refine tr_mv rfl (fun _ => rfl) ?_)
        refine tr_vc (q := 2) rfl ⟨by decide, by decide +kernel⟩ rfl rfl rfl (s_199 hE hR cE (p := j) (by omega) ?_)
        iterate 4 (refine tr_mv rfl (fun _ => rfl) ?_)
        show Tr Ls N 161 4 [some (mP (some 2)), some (mI ((acc : Int) + (refE en j : Int))), some (mI ((j : Int) + 1))] [] σ post
        rw [show (j : Int) + 1 = ((j + 1 : Nat) : Int) by omega, show (acc : Int) + (refE en j : Int) = ((acc + refE en j : Nat) : Int) by omega]
        exact k
  iterate 4 (refine tr_mv rfl (fun _ => rfl) ?_)
  exact loop en.length 0 (by omega)
end CLEAD
