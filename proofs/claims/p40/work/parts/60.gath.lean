/-! The class Elements: marks that are taken, items, numbers. -/
section GATH
variable {Ls N N1 N2 k pc n n' nn b c t u a q : Nat} {L L0 : mLs} {st r as : List mV} {h h' : mH} {σ σ' σ'' : Sg} {post : tP} {x y z x' y' i i' s v m w kd : Int} {xs ys tk ss : List Int} {els : List El} {e : mE} {D : TD} {o : Nat → Int}
theorem rget_app {pre : List Int} {x : Int} {suf : List Int} (e : ss = pre ++ x :: suf) : rget ss (pre.length : Int) = x := by rw [e]; exact rget_mid rfl
theorem s_113D (ht : isT t) (hD : tlC t σ D) (hx : in32 x) (K : post (.inl (some (mI (b2 (kn D x))))) σ) : Tr Ls N 113 0 [some (mP (some t)), some (mI x)] [] σ post :=
  s_113 ht hx (by rw [hD.1, hD.2.2.2.2.2.1]; exact K)
theorem s_42_loop (ht : isT t) (hu : isEl u) (hD2 : okTD D) (hb : isRow b n) (hbu : ¬ elR u b) (h40 : okA40 ss) (hls : ss.length ≤ 31) (f ln : Int) (hf : in32 f) : ∀ (rest done : List Int) (cd cl : Int) (tk : List Int) (v8 : Option mV) (σ : Sg), ss = done ++ rest → σ.1 b = ss → tlC t σ D → elIs u σ els tk kd → okCd cd → 0 ≤ cl ∧ cl ≤ 3 → mok 8 [some (mP (some u)), some (mP (some t)), some (mP (some b)), some (mI f), some (mI ln), some (mI cd), some (mI cl), some (mI (done.length : Int)), v8] = true →
    (∀ σ', elIs u σ' els (tmk D f rest cd cl done.length tk).2 kd → chg (elR u) (elC u) σ σ' → post (.inl (some (mI (tmk D f rest cd cl done.length tk).1))) σ') →
    Tr Ls N 42 20 [some (mP (some u)), some (mP (some t)), some (mP (some b)), some (mI f), some (mI ln), some (mI cd), some (mI cl), some (mI (done.length : Int)), v8] [] σ post := by
  intro rest
  induction rest with
  | nil =>
    intro done cd cl tk v8 σ e hs hD hS hcd hcl hm8 K
    rw [List.append_nil] at e
    iterate 2 (refine tr_mv rfl (fun _ => rfl) ?_)
    refine tr_size hb rfl rfl ?_
    rw [hs]
    refine tr_cmp2 rfl (m32_of (by rw [← e]; omega)) (m32_of (by omega)) (fun _ => ?_) (fun c1 => absurd (show (ss.length : Int) ≤ (done.length : Int) by rw [e]; omega) c1)
    iterate 1 (refine tr_mv rfl (fun _ => rfl) ?_)
    exact tr_ri rfl rfl (K σ hS chg.rf)
  | cons y rest ih =>
    intro done cd cl tk v8 σ e hs hD hS hcd hcl hm8 K
    have hlen : ss.length = done.length + 1 + rest.length := by rw [e]; simp; omega
    have hy := rget_app e
    have hy40 := h40 y (by rw [e]; simp)
    have hcly := clsOf_in y
    unfold tmk at K
    iterate 2 (refine tr_mv rfl (fun _ => rfl) ?_)
    refine tr_size hb rfl rfl ?_
    rw [hs]
    refine tr_cmp2 rfl (m32_of (by omega)) (m32_of (by omega)) (fun c1 => absurd c1 (by show ¬ _ ≤ _; omega)) (fun _ => ?_)
    iterate 2 (refine tr_mv rfl (fun _ => rfl) ?_)
    refine tr_at2 hb (m32_of (by omega)) rfl rfl ?_
    rw [hs, hy]
    refine tr_stat rfl rfl rfl (s_179 (by omega) ?_)
    first | refine tr_ib rfl (fun c1 => ?_) (fun c1 => ?_) | refine tr_ibn rfl (fun c1 => ?_) (fun c1 => ?_)
    · rw [if_neg c1] at K
      iterate 1 (refine tr_mv rfl (fun _ => rfl) ?_)
      exact tr_ri rfl rfl (K σ hS chg.rf)
    · rw [if_pos c1] at K
      iterate 5 (refine tr_mv rfl (fun _ => rfl) ?_)
      refine tr_at2 hb (m32_of (by omega)) rfl rfl ?_
      rw [hs, hy]
      refine tr_stat rfl rfl rfl (s_185 ?_)
      iterate 2 (refine tr_mv rfl (fun _ => rfl) ?_)
      rw [show cd * 100 + (y + 1) = cd * 100 + y + 1 by omega]
      iterate 2 (refine tr_mv rfl (fun _ => rfl) ?_)
      refine tr_at2 hb (m32_of (by omega)) rfl rfl ?_
      rw [hs, hy]
      refine tr_stat rfl rfl rfl (s_182 (by omega) ?_)
      have h99 : ¬ (cl < clsOf y ∧ kn D (cd * 100 + y + 1)) → Tr Ls N 42 99 [some (mP (some u)), some (mP (some t)), some (mP (some b)), some (mI f), some (mI ln), some (mI cd), some (mI cl), some (mI (done.length : Int)), some (mI (cd * 100 + y + 1))] [] σ post := by
        intro g
        rw [if_neg g] at K
        iterate 3 (refine tr_mv rfl (fun _ => rfl) ?_)
        refine tr_at2 hb (m32_of (by omega)) rfl rfl ?_
        rw [hs, hy]
        refine tr_stat rfl rfl rfl (s_182 (by omega) ?_)
        refine tr_stat rfl rfl rfl (s_329 (by omega) (by omega) ?_)
        have hw : 0 ≤ (if cl < clsOf y then clsOf y else cl) ∧ (if cl < clsOf y then clsOf y else cl) ≤ 3 := by split <;> omega
        generalize (if cl < clsOf y then clsOf y else cl) = w at K hw ⊢
        iterate 3 (refine tr_mv rfl (fun _ => rfl) ?_)
        show Tr Ls N 42 20 [some (mP (some u)), some (mP (some t)), some (mP (some b)), some (mI f), some (mI ln), some (mI cd), some (mI w), some (mI ((done.length : Int) + 1)), some (mI (cd * 100 + y + 1))] [] σ post
        rw [show (done.length : Int) + 1 = ((done ++ [y]).length : Int) by simp]
        exact ih (done ++ [y]) cd w tk _ σ (by rw [e]; simp) hs hD hS hcd hw rfl (by simpa using K)
      iterate 1 (refine tr_mv rfl (fun _ => rfl) ?_)
      refine tr_cmp2 rfl (m32_of (by omega)) (m32_of (by omega)) (fun c2 => ?_) (fun c2 => ?_)
      · exact h99 (fun g => absurd g.1 (by omega))
      · iterate 2 (refine tr_mv rfl (fun _ => rfl) ?_)
        refine tr_vc (q := t) rfl (T_O ht) rfl rfl rfl (s_113D ht hD (by omega) ?_)
        first | refine tr_ib rfl (fun c3 => ?_) (fun c3 => ?_) | refine tr_ibn rfl (fun c3 => ?_) (fun c3 => ?_)
        · exact h99 (fun g => c3 g.2)
        · rw [if_pos ⟨by omega, c3⟩] at K
          repeat (refine tr_mv rfl (fun _ => rfl) ?_)
          refine tr_vc (q := u) rfl (L_O hu) rfl rfl rfl (s_38 (p := done.length) (d := 1) hu hf hS (by omega) rfl (by omega) (fun σ1 g1 g2 => ?_))
          iterate 5 (refine tr_mv rfl (fun _ => rfl) ?_)
          show Tr Ls N 42 20 [some (mP (some u)), some (mP (some t)), some (mP (some b)), some (mI f), some (mI ln), some (mI (cd * 100 + y + 1)), some (mI cl), some (mI ((done.length : Int) + 1)), some (mI (cd * 100 + y + 1))] [] σ1 post
          rw [show (done.length : Int) + 1 = ((done ++ [y]).length : Int) by simp]
          refine ih (done ++ [y]) (cd * 100 + y + 1) cl (tk.set done.length f) _ σ1 (by rw [e]; simp) ((g2.1 b hbu).trans hs) (hD.el ht hu g2) g1 (hD2.cd c3) hcl rfl (fun σ2 k1 k2 => by simpa using K σ2 (by simpa using k1) (g2.tr k2))
theorem s_42 (ht : isT t) (hu : isEl u) (hD2 : okTD D) (hD : tlC t σ D) (hS : elIs u σ els tk kd) (hb : isRow b n) (hbu : ¬ elR u b) (hs : σ.1 b = ss) (h40 : okA40 ss) (hls : ss.length ≤ 31) {f ln : Nat} (hf : f + ln ≤ ss.length) (hln : 1 ≤ ln ∧ ln ≤ 3)
    (K : ∀ σ', elIs u σ' els (tmk D f (ss.drop (f + ln)) (cdL ((ss.drop f).take ln)) 0 (f + ln) tk).2 kd → chg (elR u) (elC u) σ σ' → post (.inl (some (mI (tmk D f (ss.drop (f + ln)) (cdL ((ss.drop f).take ln)) 0 (f + ln) tk).1))) σ') :
    Tr Ls N 42 0 [some (mP (some u)), some (mP (some t)), some (mP (some b)), some (mI (f : Int)), some (mI (ln : Int)), none, none, none, none] [] σ post := by
  have hl3 : ((ss.drop f).take ln).length = ln := by rw [List.length_take, List.length_drop]; omega
  have hcd : okCd (cdL ((ss.drop f).take ln)) := cdL_pos _ (fun e9 => by rw [e9] at hl3; simp at hl3; omega) (by omega) (fun s hs => h40 s (List.mem_of_mem_drop (List.mem_of_mem_take hs)))
  iterate 5 (refine tr_mv rfl (fun _ => rfl) ?_)
  refine tr_stat rfl rfl rfl (s_184 hb (by omega) (by omega) ?_)
  rw [hs, if_neg (by omega), show ((f : Int) + (ln : Int)).toNat = f + ln by omega, Int.toNat_natCast, List.drop_take, show f + ln - f = ln by omega]
  iterate 7 (refine tr_mv rfl (fun _ => rfl) ?_)
  have hl := s_42_loop (Ls := Ls) (N := N) (post := post) (els := els) (kd := kd) ht hu hD2 hb hbu h40 hls (f : Int) (ln : Int) (by omega) (ss.drop (f + ln)) (ss.take (f + ln)) (cdL ((ss.drop f).take ln)) 0 tk none σ (List.take_append_drop _ _).symm hs hD hS hcd (by omega) rfl
  rw [show (ss.take (f + ln)).length = f + ln by rw [List.length_take]; omega, show ((f + ln : Nat) : Int) = (f : Int) + (ln : Int) by omega] at hl
  exact hl K
theorem s_41 (ht : isT t) (hu : isEl u) (hD2 : okTD D) (hD : tlC t σ D) (hS : elIs u σ els tk kd) (hl : els.length + 3 ≤ 93) (hb : isRow b n) (hbu : ¬ elR u b) (hs : σ.1 b = ss) (h40 : okA40 ss) (hls : ss.length ≤ 31) {f : Nat} (hf : f < ss.length) (hx : ss[f]? = some x)
    (K : ∀ σ', elIs u σ' (els ++ elsOf D (tmk D f (ss.drop (f + lnOf D (ss.drop f))) (cdL ((ss.drop f).take (lnOf D (ss.drop f)))) 0 (f + lnOf D (ss.drop f)) (tkF (lnOf D (ss.drop f)) f f tk)).1 (b2 (isBlk x))) (tmk D f (ss.drop (f + lnOf D (ss.drop f))) (cdL ((ss.drop f).take (lnOf D (ss.drop f)))) 0 (f + lnOf D (ss.drop f)) (tkF (lnOf D (ss.drop f)) f f tk)).2 (b2 (isBlk x)) → chg (elR u) (elC u) σ σ' → post (.inl none) σ') :
    Tr Ls N 41 0 [some (mP (some u)), some (mP (some t)), some (mP (some b)), some (mI (f : Int)), none] [] σ post := by
  have hne : ss.drop f ≠ [] := fun e9 => by
    have := congrArg List.length e9
    simp at this
    omega
  have hld : (ss.drop f).length = ss.length - f := List.length_drop
  have hx40 := h40 x (List.mem_of_getElem? hx)
  have hgx : rget ss (f : Int) = x := by
    unfold rget
    rw [if_pos (by omega), Int.toNat_natCast, List.getD_eq_getElem?_getD, hx]
    rfl
  have hin := lnOf_in D hne
  have h51 : ∀ (ln : Nat) (σ1 : Sg), ln = lnOf D (ss.drop f) → σ1 = setF σ u 5 (b2 (isBlk x)) → Tr Ls N 41 51 [some (mP (some u)), some (mP (some t)), some (mP (some b)), some (mI (f : Int)), some (mI (ln : Int))] [] σ1 post := by
    intro ln σ1 e e1
    rw [← e] at K hin
    have c1 : chg (elR u) (elC u) σ σ1 := by rw [e1]; exact chg.rf.setF ⟨rfl, rfl⟩
    have hS1 : elIs u σ1 els tk (b2 (isBlk x)) := by rw [e1]; exact elIs_setK hu hS
    repeat (refine tr_mv rfl (fun _ => rfl) ?_)
    refine tr_vc (q := u) rfl (L_O hu) rfl rfl rfl (s_38 (p := f) (d := ln) hu (by omega) hS1 (by omega) rfl (by omega) (fun σ2 g1 g2 => ?_))
    have c2 := c1.tr g2
    repeat (refine tr_mv rfl (fun _ => rfl) ?_)
    refine tr_vc (q := u) rfl (L_O hu) rfl rfl rfl (s_42 ht hu hD2 (hD.el ht hu c2) g1 hb hbu ((c2.1 b hbu).trans hs) h40 hls (f := f) (ln := ln) (by omega) (by omega) (fun σ3 g3 g4 => ?_))
    have c3 := c2.tr g4
    have hcd : okCd (tmk D f (ss.drop (f + ln)) (cdL ((ss.drop f).take ln)) 0 (f + ln) (tkF ln f f tk)).1 := by
      refine tmk_cd hD2 _ _ _ _ _ _ (cdL_pos _ (fun e9 => ?_) ?_ (fun s hs => h40 s (List.mem_of_mem_drop (List.mem_of_mem_take hs))))
      · have := congrArg List.length e9
        rw [List.length_take] at this
        simp at this
        omega
      · rw [List.length_take]
        omega
    generalize (tmk D f (ss.drop (f + ln)) (cdL ((ss.drop f).take ln)) 0 (f + ln) (tkF ln f f tk)) = R at *
    iterate 1 (refine tr_mv rfl (fun _ => rfl) ?_)
    refine tr_vc (q := t) rfl (T_O ht) rfl rfl rfl (s_115 ht hu (hD.el ht hu c3) hD2.sg (by omega) g3 hl (by have := b2_in (isBlk x); omega) (fun σ4 g5 g6 => ?_))
    exact tr_ret rfl (fun _ => rfl) (K σ4 g5 (c3.tr g6))
  have h23 : ∀ (ln : Nat) (σ1 : Sg), 1 ≤ ln → ln ≤ 3 → (ln < 3 → ¬ (3 ≤ (ss.drop f).length ∧ kn D (cdL ((ss.drop f).take 3)))) → (ln < 2 → ¬ (2 ≤ (ss.drop f).length ∧ kn D (cdL ((ss.drop f).take 2)))) → σ1 = setF σ u 5 (b2 (isBlk x)) → Tr Ls N 41 23 [some (mP (some u)), some (mP (some t)), some (mP (some b)), some (mI (f : Int)), some (mI (ln : Int))] [] σ1 post := by
    intro ln
    induction ln with
    | zero => intro σ1 h1; omega
    | succ ln ih =>
      intro σ1 h1 h2 h3 h4 e1
      have c1 : chg (elR u) (elC u) σ σ1 := by rw [e1]; exact chg.rf.setF ⟨rfl, rfl⟩
      iterate 2 (refine tr_mv rfl (fun _ => rfl) ?_)
      refine tr_cmp2 rfl (m32_of (by omega)) (m32_of (by omega)) (fun c0 => ?_) (fun c0 => ?_)
      · refine h51 (ln + 1) σ1 ?_ e1
        unfold lnOf
        rw [if_neg (h3 (by omega)), if_neg (h4 (by omega))]
        omega
      · iterate 6 (refine tr_mv rfl (fun _ => rfl) ?_)
        refine tr_stat rfl rfl rfl (s_184 hb (by omega) (by omega) ?_)
        rw [(c1.1 b hbu).trans hs, show ((f : Int) + ((ln + 1 : Nat) : Int)).toNat = f + (ln + 1) by omega, Int.toNat_natCast, List.drop_take, show f + (ln + 1) - f = ln + 1 by omega]
        have hkey : ∀ cc : Int, in32 cc → (kn D cc ↔ (ln + 1 ≤ (ss.drop f).length ∧ kn D (cdL ((ss.drop f).take (ln + 1))))) → Tr Ls N 41 39 [some (mP (some u)), some (mP (some t)), some (mP (some b)), some (mI (f : Int)), some (mI ((ln + 1 : Nat) : Int))] [mI cc, mP (some t)] σ1 post := by
          intro cc hcc hiff
          refine tr_vc (q := t) rfl (T_O ht) rfl rfl rfl (s_113D ht (hD.el ht hu c1) hcc ?_)
          first | refine tr_ib rfl (fun c4 => ?_) (fun c4 => ?_) | refine tr_ibn rfl (fun c4 => ?_) (fun c4 => ?_)
          · refine h51 (ln + 1) σ1 ?_ e1
            have g := hiff.mp c4
            rcases (show ln + 1 = 2 ∨ ln + 1 = 3 by omega) with e9 | e9
            · rw [e9] at g ⊢
              unfold lnOf
              rw [if_neg (h3 (by omega)), if_pos g]
            · rw [e9] at g ⊢
              unfold lnOf
              rw [if_pos g]
          · iterate 2 (refine tr_mv rfl (fun _ => rfl) ?_)
            show Tr Ls N 41 23 [some (mP (some u)), some (mP (some t)), some (mP (some b)), some (mI (f : Int)), some (mI (((ln + 1 : Nat) : Int) + -1))] [] σ1 post
            rw [show ((ln + 1 : Nat) : Int) + -1 = (ln : Int) by omega]
            have g : ¬ (ln + 1 ≤ (ss.drop f).length ∧ kn D (cdL ((ss.drop f).take (ln + 1)))) := fun g9 => c4 (hiff.mpr g9)
            refine ih σ1 (by omega) (by omega) (fun h9 => ?_) (fun h9 => ?_) e1
            · rcases (show ln = 1 ∨ ln = 2 by omega) with e9 | e9
              · exact h3 (by omega)
              · rw [e9] at g; exact g
            · rw [show ln = 1 by omega] at g
              exact g
        split
        · rename_i g
          refine hkey _ (by omega) ⟨fun g9 => ?_, fun g9 => ?_⟩
          · have := hD2.cd g9
            omega
          · omega
        · rename_i g
          have hcl := cdL_in ((ss.drop f).take (ln + 1)) (by rw [List.length_take]; omega) (fun s hs => by have := h40 s (List.mem_of_mem_drop (List.mem_of_mem_take hs)); omega)
          exact hkey _ (by omega) ⟨fun g9 => ⟨by omega, g9⟩, fun g9 => g9.2⟩
  have h17 : ∀ w, w = b2 (isBlk x) → Tr Ls N 41 17 [some (mP (some u)), some (mP (some t)), some (mP (some b)), some (mI (f : Int)), none] [mI w, mP (some u)] σ post := by
    intro w e
    subst e
    refine tr_pi rfl (Or.inl rfl) (L_O hu) (by decide) (L_c hu) (L_n5 hu) ?_
    iterate 2 (refine tr_mv rfl (fun _ => rfl) ?_)
    exact h23 3 _ (by decide) (by decide) (fun h9 => absurd h9 (by decide)) (fun h9 => absurd h9 (by decide)) rfl
  iterate 3 (refine tr_mv rfl (fun _ => rfl) ?_)
  refine tr_at2 hb (m32_of (by omega)) rfl rfl ?_
  rw [hs, hgx]
  refine tr_stat rfl rfl rfl (s_180 (by omega) ?_)
  first | refine tr_ib rfl (fun c1 => ?_) (fun c1 => ?_) | refine tr_ibn rfl (fun c1 => ?_) (fun c1 => ?_)
  · iterate 1 (refine tr_mv rfl (fun _ => rfl) ?_)
    exact h17 0 (b2_neg c1).symm
  · iterate 2 (refine tr_mv rfl (fun _ => rfl) ?_)
    exact h17 1 (b2_pos c1).symm
end GATH
