/-! The class: a new edition. -/
section CEDI
variable {Ls N k pc n n' nn b c t a q kd w d p X T : Nat} {L0 : mLs} {st r as : List mV} {h h' : mH} {σ σ' σ'' : Sg} {post : tP} {x y z x' y' i i' s v m u lv : Int} {xs ys ss L M A B : List Int} {e : mE} {C : Nat → Nat → Prop} {R : Nat → Prop} {tx : List (List Int)} {en : List EnT}
/-- rows that a new edition changes -/
abbrev edR (a : Nat) : Prop := (361 ≤ a ∧ a ≤ 478 ∧ (a % 5 = 1 ∨ a % 5 = 3)) ∨ a = 104 ∨ a = 106
abbrev edE (a : Nat) : Prop := 361 ≤ a ∧ a ≤ 478 ∧ (a % 5 = 1 ∨ a % 5 = 3)
theorem s_145 (hE : en.length ≤ 24) (cE : cEn σ en) (hok : ∀ e ∈ en, okLoc (enL e) (enM e)) (hA : σ.1 104 = A) (hB : σ.1 106 = B) (hp : okPins A B)
    (K1 : A.length < 2 → post (.inr 2) σ)
    (K2 : ∀ σ', 2 ≤ A.length → cEn σ' (en.map (mvE A B)) → σ'.1 104 = [] → σ'.1 106 = [] → chg edR noC σ σ' → post (.inl (some (mI (mvT A B en)))) σ') :
    Tr Ls (N + 1) 145 0 [some (mP (some 2)), none, none] [] σ post := by
  have hl6 := hp.2.1
  have loop : ∀ (rest done : List EnT) (σ' : Sg), en = done ++ rest → cEn σ' (done.map (mvE A B) ++ rest) → chg edE noC σ σ' → 2 ≤ A.length → Tr Ls (N + 1) 145 26 [some (mP (some 2)), some (mI (mvT A B done)), some (mI (done.length : Int))] [] σ' post := by
    intro rest
    induction rest with
    | nil =>
      intro done σ' e k1 k2 h2
      rw [List.append_nil] at e k1
      have e9 := congrArg List.length e
      have hml : (done.map (mvE A B)).length = done.length := List.length_map _
      repeat (first | refine tr_gr rfl ⟨by decide, rfl⟩ (by decide) rfl ?_ | refine tr_gi rfl (by decide) ⟨by decide, rfl⟩ (by decide) rfl rfl ?_ | refine tr_gr rfl (by assumption) (by decide) (by assumption) ?_ | refine tr_gi rfl (by decide) (by assumption) (by decide) (by assumption) (by assumption) ?_ | (refine tr_rem ?_ ?_ rfl ?_; omega; omega) | (refine tr_div ?_ ?_ rfl ?_; omega; omega) | refine tr_mv rfl (fun _ => rfl) ?_ | refine tr_ia2 (m32_of (by omega)) (by omega) rfl (fun _ => rfl) rfl (by decide) (by decide) (fun _ => rfl) ?_ | refine tr_size (by assumption) rfl rfl ?_ | refine tr_at2 (by assumption) (m32_of (by omega)) rfl rfl ?_)
      rw [k1.1, hml]
      refine tr_cmp2 rfl (m32_of (by omega)) (m32_of (by omega)) (fun _ => ?_) (fun c1 => absurd (Int.le_refl _) c1)
      repeat (first | refine tr_gr rfl ⟨by decide, rfl⟩ (by decide) rfl ?_ | refine tr_gi rfl (by decide) ⟨by decide, rfl⟩ (by decide) rfl rfl ?_ | refine tr_gr rfl (by assumption) (by decide) (by assumption) ?_ | refine tr_gi rfl (by decide) (by assumption) (by decide) (by assumption) (by assumption) ?_ | (refine tr_rem ?_ ?_ rfl ?_; omega; omega) | (refine tr_div ?_ ?_ rfl ?_; omega; omega) | refine tr_mv rfl (fun _ => rfl) ?_ | refine tr_ia2 (m32_of (by omega)) (by omega) rfl (fun _ => rfl) rfl (by decide) (by decide) (fun _ => rfl) ?_ | refine tr_size (by assumption) rfl rfl ?_ | refine tr_at2 (by assumption) (m32_of (by omega)) rfl rfl ?_)
      refine tr_vc (q := 103) rfl ⟨by decide, by decide +kernel⟩ rfl rfl rfl (s_90 ?_)
      iterate 1 (refine tr_mv rfl (fun _ => rfl) ?_)
      refine tr_ri rfl rfl ?_
      rw [← e] at k1 ⊢
      have k3 : chg edR noC σ' (setR (setR σ' 104 []) 106 []) := (chg.rf.setR (Or.inr (Or.inl rfl))).setR (Or.inr (Or.inr rfl))
      refine K2 _ h2 (k1.of (R := fun a => a = 104 ∨ a = 106) (C := noC) ((chg.rf.setR (Or.inl rfl)).setR (Or.inr rfl)) (by rw [List.length_map]; exact hE) (fun a h => by omega) (fun h => h) (fun q i h => absurd h (fun g => g))) ?_ (setR_same ..) ((k2.wk (fun a h => Or.inl h) (fun q i h => h)).tr k3)
      rw [setR_ne _ _ (by decide), setR_same]
    | cons u rest ih =>
      intro done σ' e k1 k2 h2
      have hlen : en.length = done.length + 1 + rest.length := by rw [e]; simp; omega
      have hml : (done.map (mvE A B)).length = done.length := List.length_map _
      have hk := hok u (by rw [e]; simp)
      have hk10 := hk.2.2.2.2.1
      have hcu := (k1.2.2 done.length (by omega)).2.2.2.2
      rw [show (done.map (mvE A B) ++ u :: rest).getD done.length enD = u by have := mid_at (P := done.map (mvE A B)) (S := rest) (u := u); rw [hml] at this; exact this] at hcu
      repeat (first | refine tr_gr rfl ⟨by decide, rfl⟩ (by decide) rfl ?_ | refine tr_gi rfl (by decide) ⟨by decide, rfl⟩ (by decide) rfl rfl ?_ | refine tr_gr rfl (by assumption) (by decide) (by assumption) ?_ | refine tr_gi rfl (by decide) (by assumption) (by decide) (by assumption) (by assumption) ?_ | (refine tr_rem ?_ ?_ rfl ?_; omega; omega) | (refine tr_div ?_ ?_ rfl ?_; omega; omega) | refine tr_mv rfl (fun _ => rfl) ?_ | refine tr_ia2 (m32_of (by omega)) (by omega) rfl (fun _ => rfl) rfl (by decide) (by decide) (fun _ => rfl) ?_ | refine tr_size (by assumption) rfl rfl ?_ | refine tr_at2 (by assumption) (m32_of (by omega)) rfl rfl ?_)
      rw [k1.1, show ((done.map (mvE A B) ++ u :: rest).length : Int) = (en.length : Int) by rw [List.length_append, hml, hlen, List.length_cons]; omega]
      refine tr_cmp2 rfl (m32_of (by omega)) (m32_of (by omega)) (fun c9 => absurd c9 (by show ¬ _ ≤ _; omega)) (fun _ => ?_)
      iterate 3 (refine tr_mv rfl (fun _ => rfl) ?_)
      refine tr_vc (q := 2) rfl ⟨by decide, by decide +kernel⟩ rfl rfl rfl (s_171 (p := done.length) (by omega) ?_)
      repeat (first | refine tr_gr rfl ⟨by decide, rfl⟩ (by decide) rfl ?_ | refine tr_gi rfl (by decide) ⟨by decide, rfl⟩ (by decide) rfl rfl ?_ | refine tr_gr rfl (by assumption) (by decide) (by assumption) ?_ | refine tr_gi rfl (by decide) (by assumption) (by decide) (by assumption) (by assumption) ?_ | (refine tr_rem ?_ ?_ rfl ?_; omega; omega) | (refine tr_div ?_ ?_ rfl ?_; omega; omega) | refine tr_mv rfl (fun _ => rfl) ?_ | refine tr_ia2 (m32_of (by omega)) (by omega) rfl (fun _ => rfl) rfl (by decide) (by decide) (fun _ => rfl) ?_ | refine tr_size (by assumption) rfl rfl ?_ | refine tr_at2 (by assumption) (m32_of (by omega)) rfl rfl ?_)
      refine tr_vc (q := (360 + 5 * done.length)) rfl (E_O (e_E (by omega))) rfl rfl rfl (s_66 (A := A) (B := B) (L := enL u) (e_E (by omega)) ((k2.1 _ (by omega)).trans hA) ((k2.1 _ (by omega)).trans hB) hp hcu hk.2.1 hk10 ?_)
      iterate 4 (refine tr_mv rfl (fun _ => rfl) ?_)
      show Tr Ls (N + 1) 145 26 [some (mP (some 2)), some (mI ((mvT A B done : Int) + (mvD A B (enL u) : Int))), some (mI ((done.length : Int) + 1))] [] _ post
      have hch : chg (fun a => a = (360 + 5 * done.length) + 1 ∨ a = (360 + 5 * done.length) + 3) noC σ' (setR (setR σ' ((360 + 5 * done.length) + 3) (mvL A B (enL u))) ((360 + 5 * done.length) + 1) (mvL A B (enL u))) := (chg.rf.setR (Or.inr rfl)).setR (Or.inl rfl)
      rw [hk.dead (A := A) (B := B), show (done.length : Int) + 1 = ((done ++ [u]).length : Int) by simp, show (mvT A B done : Int) + (mvD A B (enM u) : Int) = (mvT A B (done ++ [u]) : Int) by unfold mvT; simp]
      refine ih (done ++ [u]) _ (by rw [e]; simp) ?_ (k2.tr (hch.wk (fun a h => by omega) (fun q i h => h))) h2
      rw [show (done ++ [u]).map (mvE A B) ++ rest = done.map (mvE A B) ++ mvE A B u :: rest by simp]
      exact k1.step (by rw [List.length_append, hml, List.length_cons]; omega) (by rw [hml]; exact hch) ⟨rfl, rfl, rfl, rfl, rfl, rfl, rfl⟩ (by rw [hml, setR_same]; rfl)
  repeat (first | refine tr_gr rfl ⟨by decide, rfl⟩ (by decide) rfl ?_ | refine tr_gi rfl (by decide) ⟨by decide, rfl⟩ (by decide) rfl rfl ?_ | refine tr_gr rfl (by assumption) (by decide) (by assumption) ?_ | refine tr_gi rfl (by decide) (by assumption) (by decide) (by assumption) (by assumption) ?_ | (refine tr_rem ?_ ?_ rfl ?_; omega; omega) | (refine tr_div ?_ ?_ rfl ?_; omega; omega) | refine tr_mv rfl (fun _ => rfl) ?_ | refine tr_ia2 (m32_of (by omega)) (by omega) rfl (fun _ => rfl) rfl (by decide) (by decide) (fun _ => rfl) ?_ | refine tr_size (by assumption) rfl rfl ?_ | refine tr_at2 (by assumption) (m32_of (by omega)) rfl rfl ?_)
  refine tr_vc (q := 103) rfl ⟨by decide, by decide +kernel⟩ rfl rfl rfl (s_87 ?_)
  rw [hA]
  iterate 1 (refine tr_mv rfl (fun _ => rfl) ?_)
  refine tr_cmp2 rfl (m32_of (by omega)) (m32_of (by omega)) (fun c1 => ?_) (fun c1 => ?_)
  · have c2 : 2 ≤ (A.length : Int) := c1
    iterate 4 (refine tr_mv rfl (fun _ => rfl) ?_)
    show Tr Ls (N + 1) 145 26 [some (mP (some 2)), some (mI ((mvT A B [] : Nat) : Int)), some (mI ((([] : List EnT).length : Nat) : Int))] [] σ post
    exact loop en [] _ rfl cE chg.rf (by omega)
  · have c2 : ¬ 2 ≤ (A.length : Int) := c1
    exact tr_throw rfl (K1 (by omega))
end CEDI
