/-! The class: locate, locatorAt. -/
theorem ins_sorted {L pre suf : List Int} {c : Int} (hs : L.Pairwise (fun a b => a < b)) (e : L = pre ++ suf) (h1 : ∀ z ∈ suf, c < z) (h2 : ∀ p l, pre = p ++ [l] → l ≤ c) (hn : c ∉ L) : (pre ++ c :: suf).Pairwise (fun a b => a < b) ∧ (∀ z, z ∈ pre ++ c :: suf ↔ z ∈ L ∨ z = c) ∧ (pre ++ c :: suf).length = L.length + 1 := by
  rw [e] at hs hn ⊢
  obtain ⟨s1, s2, s3⟩ := List.pairwise_append.mp hs
  have hpre : ∀ z ∈ pre, z < c := by
    intro z hz
    have hzn : z ≠ c := fun g => hn (by rw [← g]; exact List.mem_append.mpr (Or.inl hz))
    cases hr : pre.reverse with
    | nil =>
      have := congrArg List.reverse hr
      rw [List.reverse_reverse] at this
      rw [this] at hz
      exact absurd hz List.not_mem_nil
    | cons l r =>
      have h3 := congrArg List.reverse hr
      rw [List.reverse_reverse, List.reverse_cons] at h3
      have h4 := h2 _ _ h3
      rw [h3] at hz s1
      rcases List.mem_append.mp hz with g | g
      · have := (List.pairwise_append.mp s1).2.2 z g l (List.mem_singleton.mpr rfl)
        omega
      · rw [List.mem_singleton.mp g] at hzn ⊢
        omega
  refine ⟨List.pairwise_append.mpr ⟨s1, List.pairwise_cons.mpr ⟨h1, s2⟩, fun a ha b hb => ?_⟩, fun z => ?_, ?_⟩
  · rcases List.mem_cons.mp hb with g | g
    · rw [g]
      exact hpre a ha
    · exact s3 a ha b g
  · simp only [List.mem_append, List.mem_cons]
    constructor
    · rintro (g | g | g)
      · exact Or.inl (Or.inl g)
      · exact Or.inr g
      · exact Or.inl (Or.inr g)
    · rintro ((g | g) | g)
      · exact Or.inl g
      · exact Or.inr (Or.inr g)
      · exact Or.inr (Or.inl g)
  · simp only [List.length_append, List.length_cons]
    omega
section CLOC
variable {Ls N k pc n n' nn b c t a q kd w d p X T : Nat} {L0 : mLs} {st r as : List mV} {h h' : mH} {σ σ' σ'' : Sg} {post : tP} {x y z x' y' i i' s v m u lv : Int} {xs ys ss L M A B : List Int} {e : mE} {C : Nat → Nat → Prop} {R : Nat → Prop} {tx : List (List Int)} {en : List EnT}
theorem s_139 (hE : en.length ≤ 24) (cE : cEn σ en) (hok : ∀ e ∈ en, okLoc (enL e) (enM e)) (hi : in32 i) (hx : in32 x) (hy : in32 y)
    (K1 : ¬ (0 ≤ i ∧ i < (en.length : Int)) → post (.inr 0) σ)
    (K2 : (0 ≤ i ∧ i < (en.length : Int)) → ¬ ((1 ≤ x ∧ x ≤ 999) ∧ 0 ≤ y ∧ y ≤ 2) → post (.inr 1) σ)
    (K3 : ∀ a : Nat, i = (a : Int) → a < en.length → ((1 ≤ x ∧ x ≤ 999) ∧ 0 ≤ y ∧ y ≤ 2) → 1000 * rk y + x ∉ enL (en.getD a enD) → (enL (en.getD a enD)).length = 10 → post (.inr 2) σ)
    (K4 : ∀ a : Nat, i = (a : Int) → a < en.length → ((1 ≤ x ∧ x ≤ 999) ∧ 0 ≤ y ∧ y ≤ 2) → 1000 * rk y + x ∈ enL (en.getD a enD) → post (.inl (some (mI 0))) σ)
    (K5 : ∀ (a : Nat) (L' : List Int), i = (a : Int) → a < en.length → ((1 ≤ x ∧ x ≤ 999) ∧ 0 ≤ y ∧ y ≤ 2) → 1000 * rk y + x ∉ enL (en.getD a enD) → (enL (en.getD a enD)).length < 10 → L'.Pairwise (fun a b => a < b) → (∀ z, z ∈ L' ↔ z ∈ enL (en.getD a enD) ∨ z = 1000 * rk y + x) → L'.length = (enL (en.getD a enD)).length + 1 → post (.inl (some (mI 1))) (setR σ ((360 + 5 * a) + 1) L')) :
    Tr Ls (N + 1) 139 0 [some (mP (some 2)), some (mI i), some (mI x), some (mI y), none] [] σ post := by
  iterate 2 (refine tr_mv rfl (fun _ => rfl) ?_)
  refine tr_vc (q := 2) rfl ⟨by decide, by decide +kernel⟩ rfl rfl rfl (s_167 hi (by rw [cE.1]; omega) ?_)
  rw [cE.1]
  first | refine tr_ib rfl (fun c1 => ?_) (fun c1 => ?_) | refine tr_ibn rfl (fun c1 => ?_) (fun c1 => ?_)
  · iterate 1 (refine tr_mv rfl (fun _ => rfl) ?_)
    refine tr_stat rfl rfl rfl (s_176 hx ?_)
    first | refine tr_ib rfl (fun c2 => ?_) (fun c2 => ?_) | refine tr_ibn rfl (fun c2 => ?_) (fun c2 => ?_)
    · exact tr_throw rfl (K2 c1 (fun g => c2 g.1))
    · iterate 1 (refine tr_mv rfl (fun _ => rfl) ?_)
      refine tr_if2 rfl (m32_of (by omega)) (fun c3 => ?_) (fun c3 => ?_)
      · have c4 : y < 0 := c3
        exact tr_throw rfl (K2 c1 (fun g => by omega))
      · have c4 : ¬ y < 0 := c3
        iterate 2 (refine tr_mv rfl (fun _ => rfl) ?_)
        refine tr_cmp2 rfl (m32_of (by omega)) (m32_of (by omega)) (fun c5 => ?_) (fun c5 => ?_)
        · have c6 : y ≤ 2 := c5
          obtain ⟨a, rfl⟩ : ∃ a : Nat, i = (a : Int) := ⟨i.toNat, by omega⟩
          have ha : a < en.length := by omega
          have hk := hok _ (en_mem ha)
          have hL : σ.1 ((360 + 5 * a) + 1) = enL (en.getD a enD) := (cE.2.2 a (by omega)).2.2.2.2
          have ht := e_E (i := a) (by omega)
          have hB : (1 ≤ x ∧ x ≤ 999) ∧ 0 ≤ y ∧ y ≤ 2 := ⟨c2, by omega, c6⟩
          have hl10 := hk.2.2.2.2.1
          iterate 2 (refine tr_mv rfl (fun _ => rfl) ?_)
          refine tr_vc (q := 2) rfl ⟨by decide, by decide +kernel⟩ rfl rfl rfl (s_171 (p := a) (by omega) ?_)
          iterate 4 (refine tr_mv rfl (fun _ => rfl) ?_)
          refine tr_vc (q := (360 + 5 * a)) rfl (E_O ht) rfl rfl rfl (s_64 ht (by omega) (by omega) ?_)
          rw [hL]
          first | refine tr_ib rfl (fun c7 => ?_) (fun c7 => ?_) | refine tr_ibn rfl (fun c7 => ?_) (fun c7 => ?_)
          · iterate 1 (refine tr_mv rfl (fun _ => rfl) ?_)
            refine tr_vc (q := (360 + 5 * a)) rfl (E_O ht) rfl rfl rfl (s_59 ht ?_)
            refine tr_size (E_r5 ht) rfl rfl ?_
            rw [hL]
            iterate 1 (refine tr_mv rfl (fun _ => rfl) ?_)
            refine tr_cmp2 rfl (m32_of (by omega)) (m32_of (by omega)) (fun c8 => ?_) (fun c8 => ?_)
            · have c9 : ((enL (en.getD a enD)).length : Int) < 10 := c8
              iterate 3 (refine tr_mv rfl (fun _ => rfl) ?_)
              refine tr_vc (q := (360 + 5 * a)) rfl (E_O ht) rfl rfl rfl (s_65 ht (by omega) (by omega) (by rw [hL]; omega) (fun z hz => by rw [hL] at hz; have := hk.2.1 z hz; omega) (fun pre suf g1 g2 g3 => ?_))
              rw [hL] at g1
              have g4 := ins_sorted hk.1 g1 g2 g3 c7
              iterate 1 (refine tr_mv rfl (fun _ => rfl) ?_)
              exact tr_reti rfl (Or.inr (Or.inr rfl)) (K5 a _ rfl ha hB c7 (by omega) g4.1 g4.2.1 g4.2.2)
            · have c9 : ¬ ((enL (en.getD a enD)).length : Int) < 10 := c8
              exact tr_throw rfl (K3 a rfl ha hB c7 (by omega))
          · iterate 1 (refine tr_mv rfl (fun _ => rfl) ?_)
            exact tr_reti rfl (Or.inr (Or.inl rfl)) (K4 a rfl ha hB c7)
        · have c6 : ¬ y ≤ 2 := c5
          exact tr_throw rfl (K2 c1 (fun g => by omega))
  · exact tr_throw rfl (K1 c1)
end CLOC
