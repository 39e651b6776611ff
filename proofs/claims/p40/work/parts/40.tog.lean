/-! Putting a row together: the class's. -/
def tog (F : Int → Int → Int) : Option (Int × Int × List Int) → List Int → List Int
  | none, [] => []
  | none, x :: xs => if isLet x then tog F (some (x, 0, [])) xs else x :: tog F none xs
  | some (c, _, acc), [] => c :: acc
  | some (c, mo, acc), m :: ms => if isMrk m then (if mo < clsOf m ∧ F c m ≠ -1 then tog F (some (F c m, mo, acc)) ms else tog F (some (c, (if mo < clsOf m then clsOf m else mo), acc ++ [m])) ms)
    else if isLet m then (c :: acc) ++ tog F (some (m, 0, [])) ms else (c :: acc) ++ m :: tog F none ms
section TOG
variable {Ls N N1 N2 k pc n n' nn b c t a q : Nat} {L L0 : mLs} {st r as : List mV} {h h' : mH} {σ σ' σ'' : Sg} {post : tP} {x y z x' y' i i' s v m w : Int} {xs ys : List Int} {e : mE} {C : Nat → Nat → Prop} {B M : Int → Int}
theorem s_23_loop (ha : isRow a n) (hb : isRow b n') (hab : a ≠ b) (hB : ∀ s, in32 (B s)) (hM : ∀ s, in32 (M s)) : ∀ (rest : List Int),
    (∀ (done2 : List Int) (σ : Sg) (cl : Int) (v6 v7 v8 : Option mV) (done : List Int), bOf σ = B → kOf σ = M → σ.1 a = done2 ++ rest → σ.1 b = done → 0 ≤ cl ∧ cl ≤ 3 → done.length + rest.length ≤ n' → post (.inl none) (setR σ b (done ++ tog (cof B M) none rest)) →
      Tr Ls N 23 12 [some (mP (some 3)), some (mP (some a)), some (mP (some b)), some (mI (-1)), some (mI cl), some (mI (done2.length : Int)), v6, v7, v8] [] σ post) ∧
    (∀ (done2 : List Int) (σ : Sg) (mo : Int) (v6 v7 v8 : Option mV) (done : List Int) (c : Int) (acc : List Int), bOf σ = B → kOf σ = M → σ.1 a = done2 ++ rest → σ.1 b = done ++ c :: acc → 0 ≤ mo ∧ mo ≤ 3 → 0 ≤ c ∧ c < 48 → done.length + 1 + acc.length + rest.length ≤ n' → post (.inl none) (setR σ b (done ++ tog (cof B M) (some (c, mo, acc)) rest)) →
      Tr Ls N 23 12 [some (mP (some 3)), some (mP (some a)), some (mP (some b)), some (mI (done.length : Int)), some (mI mo), some (mI (done2.length : Int)), v6, v7, v8] [] σ post) := by
  intro rest
  have hna := isRow_small ha
  have hnb := isRow_small hb
  induction rest with
  | nil =>
    refine ⟨fun done2 σ cl v6 v7 v8 done e1 e2 hs hd hcl hl K => ?_, fun done2 σ mo v6 v7 v8 done c acc e1 e2 hs hd hcl hc hl K => ?_⟩
    · refine tr_fact fun ⟨h0, hr⟩ => ?_
      have hla := rep_len hr ha
      rw [hs, List.append_nil] at hla
      iterate 2 (refine tr_mv rfl (fun _ => rfl) ?_)
      refine tr_size ha rfl rfl ?_
      rw [hs, List.append_nil]
      refine tr_cmp2 rfl (m32_of (by omega)) (m32_of (by omega)) (fun _ => ?_) (fun c1 => absurd (Int.le_refl _) c1)
      refine tr_ret rfl (fun _ => rfl) ?_
      rw [show done ++ tog (cof B M) none [] = σ.1 b by rw [hd]; simp [tog], setR_self] at K
      exact K
    · refine tr_fact fun ⟨h0, hr⟩ => ?_
      have hla := rep_len hr ha
      rw [hs, List.append_nil] at hla
      iterate 2 (refine tr_mv rfl (fun _ => rfl) ?_)
      refine tr_size ha rfl rfl ?_
      rw [hs, List.append_nil]
      refine tr_cmp2 rfl (m32_of (by omega)) (m32_of (by omega)) (fun _ => ?_) (fun c1 => absurd (Int.le_refl _) c1)
      refine tr_ret rfl (fun _ => rfl) ?_
      rw [show done ++ tog (cof B M) (some (c, mo, acc)) [] = σ.1 b by rw [hd]; simp [tog], setR_self] at K
      exact K
  | cons x rest ih =>
    have hl2 : (x :: rest).length = rest.length + 1 := rfl
    -- behind the sign: the next turn
    have hput : ∀ (done2 : List Int) (σ : Sg) (bearer cl : Int) (v7 v8 : Option mV) (ys : List Int), in32 x → σ.1 a = done2 ++ x :: rest → done2.length < 1000 → σ.1 b = ys → 0 ≤ cl ∧ cl ≤ 3 → ys.length < n' → mok 7 [some (mP (some 3)), some (mP (some a)), some (mP (some b)), some (mI bearer), some (mI cl), some (mI (done2.length : Int)), some (mI x), v7, v8] = true →
        (isMrk x → Tr Ls N 23 154 [some (mP (some 3)), some (mP (some a)), some (mP (some b)), some (mI bearer), some (mI (if cl < clsOf x then clsOf x else cl)), some (mI (done2.length : Int)), some (mI x), v7, v8] [] (setR σ b (ys ++ [x])) post) →
        (¬ isMrk x → Tr Ls N 23 154 [some (mP (some 3)), some (mP (some a)), some (mP (some b)), some (mI (if isLet x then (ys.length : Int) else -1)), some (mI 0), some (mI (done2.length : Int)), some (mI x), v7, v8] [] (setR σ b (ys ++ [x])) post) →
        Tr Ls N 23 97 [some (mP (some 3)), some (mP (some a)), some (mP (some b)), some (mI bearer), some (mI cl), some (mI (done2.length : Int)), some (mI x), v7, v8] [] σ post := by
      intro done2 σ bearer cl v7 v8 ys hx hs hd2 hy hcl hl _ K1 K2
      have hcx := clsOf_in x
      iterate 2 (refine tr_mv rfl (fun _ => rfl) ?_)
      refine tr_put hb hx rfl rfl ?_
      rw [hy, rput_lt hl]
      iterate 1 (refine tr_mv rfl (fun _ => rfl) ?_)
      refine tr_stat rfl rfl rfl (s_179 hx ?_)
      first | refine tr_ib rfl (fun c1 => ?_) (fun c1 => ?_) | refine tr_ibn rfl (fun c1 => ?_) (fun c1 => ?_)
      · iterate 3 (refine tr_mv rfl (fun _ => rfl) ?_)
        refine tr_stat rfl rfl rfl (s_179 hx ?_)
        first | refine tr_ib rfl (fun c2 => ?_) (fun c2 => ?_) | refine tr_ibn rfl (fun c2 => ?_) (fun c2 => ?_)
        · exact absurd c2 c1
        · iterate 1 (refine tr_mv rfl (fun _ => rfl) ?_)
          refine tr_stat rfl rfl rfl (s_178 hx ?_)
          have K2' := K2 c1
          first | refine tr_ib rfl (fun c3 => ?_) (fun c3 => ?_) | refine tr_ibn rfl (fun c3 => ?_) (fun c3 => ?_)
          · rw [if_neg c3] at K2'
            iterate 2 (refine tr_mv rfl (fun _ => rfl) ?_)
            exact K2'
          · rw [if_pos c3] at K2'
            iterate 1 (refine tr_mv rfl (fun _ => rfl) ?_)
            refine tr_size hb rfl rfl ?_
            rw [setR_same, show (((ys ++ [x]).length : Nat) : Int) = (ys.length : Int) + 1 by simp]
            iterate 4 (refine tr_mv rfl (fun _ => rfl) ?_)
            rw [show (ys.length : Int) + 1 - 1 = (ys.length : Int) by omega]
            exact K2'
      · iterate 2 (refine tr_mv rfl (fun _ => rfl) ?_)
        refine tr_stat rfl rfl rfl (s_182 hx ?_)
        refine tr_stat rfl rfl rfl (s_329 (by omega) (by omega) ?_)
        iterate 3 (refine tr_mv rfl (fun _ => rfl) ?_)
        refine tr_stat rfl rfl rfl (s_179 hx ?_)
        first | refine tr_ib rfl (fun c2 => ?_) (fun c2 => ?_) | refine tr_ibn rfl (fun c2 => ?_) (fun c2 => ?_)
        · exact K1 c1
        · exact absurd c1 c2
    have hnext : ∀ (done2 : List Int) (σ : Sg) (bearer cl : Int) (v7 v8 : Option mV), σ.1 a = done2 ++ x :: rest → Tr Ls N 23 12 [some (mP (some 3)), some (mP (some a)), some (mP (some b)), some (mI bearer), some (mI cl), some (mI ((done2 ++ [x]).length : Int)), some (mI x), v7, v8] [] σ post →
        Tr Ls N 23 154 [some (mP (some 3)), some (mP (some a)), some (mP (some b)), some (mI bearer), some (mI cl), some (mI (done2.length : Int)), some (mI x), v7, v8] [] σ post := by
      intro done2 σ bearer cl v7 v8 hs K
      iterate 2 (refine tr_mv rfl (fun _ => rfl) ?_)
      show Tr Ls N 23 12 [some (mP (some 3)), some (mP (some a)), some (mP (some b)), some (mI bearer), some (mI cl), some (mI ((done2.length : Int) + 1)), some (mI x), v7, v8] [] σ post
      rw [show (done2.length : Int) + 1 = ((done2 ++ [x]).length : Int) by simp]
      exact K
    refine ⟨fun done2 σ cl v6 v7 v8 done e1 e2 hs hd hcl hl K => ?_, fun done2 σ mo v6 v7 v8 done c acc e1 e2 hs hd hcl hc hl K => ?_⟩
    · refine tr_fact fun ⟨h0, hr⟩ => ?_
      have hla := rep_len hr ha
      have hx : in32 x := rep_in hr ha x (by rw [hs]; simp)
      rw [hs] at hla
      have hlen : (done2 ++ x :: rest).length = done2.length + 1 + rest.length := by simp; omega
      have hs' : ∀ ys, (setR σ b ys).1 a = (done2 ++ [x]) ++ rest := fun ys => by rw [setR_ne _ _ hab, hs]; simp
      unfold tog at K
      iterate 2 (refine tr_mv rfl (fun _ => rfl) ?_)
      refine tr_size ha rfl rfl ?_
      rw [hs]
      refine tr_cmp2 rfl (m32_of (by omega)) (m32_of (by omega)) (fun c1 => absurd c1 (by show ¬ _ ≤ _; omega)) (fun _ => ?_)
      iterate 2 (refine tr_mv rfl (fun _ => rfl) ?_)
      refine tr_at2 ha (m32_of (by omega)) rfl rfl ?_
      rw [hs, rget_mid rfl]
      iterate 3 (refine tr_mv rfl (fun _ => rfl) ?_)
      refine tr_cmp2 rfl (m32_of (x := -1) ⟨by decide, by decide⟩) (m32_of (x := -1) ⟨by decide, by decide⟩) (fun _ => ?_) (fun c1 => absurd rfl c1)
      iterate 4 (refine tr_mv rfl (fun _ => rfl) ?_)
      have hp := hput done2 σ (-1) cl (some (mI 1)) (some (mI (-1))) done hx hs (by omega) hd hcl (by omega) rfl (fun c1 => ?_) (fun c1 => ?_)
      · refine tr_stat rfl rfl rfl (s_179 hx ?_)
        first | refine tr_ib rfl (fun c1 => ?_) (fun c1 => ?_) | refine tr_ibn rfl (fun c1 => ?_) (fun c1 => ?_)
        · iterate 4 (refine tr_mv rfl (fun _ => rfl) ?_)
          refine tr_cmp2 rfl (m32_of (x := -1) ⟨by decide, by decide⟩) (m32_of (x := -1) ⟨by decide, by decide⟩) (fun _ => ?_) (fun c1 => absurd rfl c1)
          exact hp
        · iterate 1 (refine tr_mv rfl (fun _ => rfl) ?_)
          refine tr_if2 rfl (m32_of (x := 1) ⟨by decide, by decide⟩) (fun _ => ?_) (fun c1 => absurd (show (1 : Int) ≠ 0 by decide) c1)
          iterate 4 (refine tr_mv rfl (fun _ => rfl) ?_)
          refine tr_cmp2 rfl (m32_of (x := -1) ⟨by decide, by decide⟩) (m32_of (x := -1) ⟨by decide, by decide⟩) (fun _ => ?_) (fun c1 => absurd rfl c1)
          exact hp
      · have hcx := clsOf_in x
        rw [if_neg (by omega)] at K
        refine hnext done2 _ _ _ _ _ (by rw [setR_ne _ _ hab, hs]) ?_
        refine ih.1 (done2 ++ [x]) (setR σ b (done ++ [x])) _ _ _ _ (done ++ [x]) e1 e2 (hs' _) (setR_same _ _ _) (by split <;> omega) (by simp; omega) ?_
        rw [setR_setR]
        simpa using K
      · refine hnext done2 _ _ _ _ _ (by rw [setR_ne _ _ hab, hs]) ?_
        by_cases c2 : isLet x
        · rw [if_pos c2] at K ⊢
          refine ih.2 (done2 ++ [x]) (setR σ b (done ++ [x])) 0 _ _ _ done x [] e1 e2 (hs' _) (setR_same _ _ _) (by omega) (by omega) (by simp; omega) ?_
          rw [setR_setR]
          exact K
        · rw [if_neg c2] at K ⊢
          refine ih.1 (done2 ++ [x]) (setR σ b (done ++ [x])) _ _ _ _ (done ++ [x]) e1 e2 (hs' _) (setR_same _ _ _) (by omega) (by simp; omega) ?_
          rw [setR_setR]
          simpa using K
    · refine tr_fact fun ⟨h0, hr⟩ => ?_
      have hla := rep_len hr ha
      have hx : in32 x := rep_in hr ha x (by rw [hs]; simp)
      rw [hs] at hla
      have hcx := clsOf_in x
      have hlen : (done2 ++ x :: rest).length = done2.length + 1 + rest.length := by simp; omega
      have hleb : (done ++ c :: acc).length = done.length + 1 + acc.length := by simp; omega
      have hs' : ∀ ys, (setR σ b ys).1 a = (done2 ++ [x]) ++ rest := fun ys => by rw [setR_ne _ _ hab, hs]; simp
      unfold tog at K
      iterate 2 (refine tr_mv rfl (fun _ => rfl) ?_)
      refine tr_size ha rfl rfl ?_
      rw [hs]
      refine tr_cmp2 rfl (m32_of (by omega)) (m32_of (by omega)) (fun c1 => absurd c1 (by show ¬ _ ≤ _; omega)) (fun _ => ?_)
      iterate 2 (refine tr_mv rfl (fun _ => rfl) ?_)
      refine tr_at2 ha (m32_of (by omega)) rfl rfl ?_
      rw [hs, rget_mid rfl]
      iterate 3 (refine tr_mv rfl (fun _ => rfl) ?_)
      refine tr_cmp2 rfl (m32_of (by omega)) (m32_of (x := -1) ⟨by decide, by decide⟩) (fun c1 => absurd c1 (by show ¬ _ = (-1 : Int); omega)) (fun _ => ?_)
      iterate 1 (refine tr_mv rfl (fun _ => rfl) ?_)
      refine tr_stat rfl rfl rfl (s_182 hx ?_)
      have hpm : ∀ v7 v8, (isMrk x → ¬ (mo < clsOf x ∧ cof B M c x ≠ -1)) → Tr Ls N 23 97 [some (mP (some 3)), some (mP (some a)), some (mP (some b)), some (mI (done.length : Int)), some (mI mo), some (mI (done2.length : Int)), some (mI x), some (mI v7), some (mI v8)] [] σ post := by
        intro v7 v8 hno
        refine hput done2 σ _ mo _ _ _ hx hs (by omega) hd hcl (by omega) rfl (fun c1 => ?_) (fun c1 => ?_)
        · rw [if_pos c1, if_neg (hno c1)] at K
          refine hnext done2 _ _ _ _ _ (by rw [setR_ne _ _ hab, hs]) ?_
          refine ih.2 (done2 ++ [x]) (setR σ b (done ++ c :: acc ++ [x])) _ _ _ _ done c (acc ++ [x]) e1 e2 (hs' _) (by rw [setR_same]; simp) (by split <;> omega) hc (by simp; omega) ?_
          rw [setR_setR]
          exact K
        · rw [if_neg c1] at K
          refine hnext done2 _ _ _ _ _ (by rw [setR_ne _ _ hab, hs]) ?_
          by_cases c2 : isLet x
          · rw [if_pos c2] at K ⊢
            refine ih.2 (done2 ++ [x]) (setR σ b (done ++ c :: acc ++ [x])) 0 _ _ _ (done ++ c :: acc) x [] e1 e2 (hs' _) (by rw [setR_same]) (by omega) (by omega) (by simp; omega) ?_
            rw [setR_setR]
            simpa using K
          · rw [if_neg c2] at K ⊢
            refine ih.1 (done2 ++ [x]) (setR σ b (done ++ c :: acc ++ [x])) _ _ _ _ (done ++ c :: acc ++ [x]) e1 e2 (hs' _) (setR_same _ _ _) (by omega) (by simp; omega) ?_
            rw [setR_setR]
            simpa using K
      -- isBlocked
      refine tr_mv rfl (fun _ => rfl) ?_
      refine tr_cmp2 rfl (m32_of (by omega)) (m32_of (by omega)) (fun c1 => ?_) (fun c1 => ?_)
      · iterate 3 (refine tr_mv rfl (fun _ => rfl) ?_)
        refine tr_stat rfl rfl rfl (s_179 hx ?_)
        first | refine tr_ib rfl (fun c2 => ?_) (fun c2 => ?_) | refine tr_ibn rfl (fun c2 => ?_) (fun c2 => ?_)
        · iterate 4 (refine tr_mv rfl (fun _ => rfl) ?_)
          refine tr_cmp2 rfl (m32_of (x := -1) ⟨by decide, by decide⟩) (m32_of (x := -1) ⟨by decide, by decide⟩) (fun _ => ?_) (fun c1 => absurd rfl c1)
          exact hpm 0 (-1) (fun g => absurd g c2)
        · iterate 1 (refine tr_mv rfl (fun _ => rfl) ?_)
          refine tr_if2 rfl (m32_of (x := 0) ⟨by decide, by decide⟩) (fun c9 => absurd (show (0 : Int) = 0 by rfl) c9) (fun _ => ?_)
          iterate 3 (refine tr_mv rfl (fun _ => rfl) ?_)
          refine tr_at2 hb (m32_of (by omega)) rfl rfl ?_
          rw [hd, rget_mid rfl]
          iterate 1 (refine tr_mv rfl (fun _ => rfl) ?_)
          refine tr_vc (q := 3) rfl ⟨by decide, rfl⟩ rfl rfl rfl (s_19 (by omega) hx (by rw [e1]; exact hB) (by rw [e2]; exact hM) ?_)
          rw [e1, e2]
          have hF := cof_or B M c x
          iterate 4 (refine tr_mv rfl (fun _ => rfl) ?_)
          refine tr_cmp2 rfl (m32_of (by omega)) (m32_of (x := -1) ⟨by decide, by decide⟩) (fun c3 => ?_) (fun c3 => ?_)
          · exact hpm 0 _ (fun _ g => g.2 c3)
          · have c3' : cof B M c x ≠ -1 := c3
            iterate 3 (refine tr_mv rfl (fun _ => rfl) ?_)
            refine tr_set2 hb (m32_of (by omega)) (by omega) rfl rfl ?_
            rw [hd, rset_mid rfl]
            iterate 2 (refine tr_mv rfl (fun _ => rfl) ?_)
            refine tr_stat rfl rfl rfl (s_179 hx ?_)
            rw [if_pos c2, if_pos ⟨by omega, c3'⟩] at K
            first | refine tr_ib rfl (fun c4 => ?_) (fun c4 => ?_) | refine tr_ibn rfl (fun c4 => ?_) (fun c4 => ?_)
            · refine hnext done2 _ _ _ _ _ (by rw [setR_ne _ _ hab, hs]) ?_
              refine ih.2 (done2 ++ [x]) (setR σ b (done ++ cof B M c x :: acc)) mo _ _ _ done (cof B M c x) acc e1 e2 (hs' _) (setR_same _ _ _) hcl (by omega) (by omega) ?_
              rw [setR_setR]
              exact K
            · exact absurd c2 c4
      · iterate 4 (refine tr_mv rfl (fun _ => rfl) ?_)
        refine tr_stat rfl rfl rfl (s_179 hx ?_)
        first | refine tr_ib rfl (fun c2 => ?_) (fun c2 => ?_) | refine tr_ibn rfl (fun c2 => ?_) (fun c2 => ?_)
        · iterate 4 (refine tr_mv rfl (fun _ => rfl) ?_)
          refine tr_cmp2 rfl (m32_of (x := -1) ⟨by decide, by decide⟩) (m32_of (x := -1) ⟨by decide, by decide⟩) (fun _ => ?_) (fun c1 => absurd rfl c1)
          exact hpm 1 (-1) (fun g => absurd g c2)
        · iterate 1 (refine tr_mv rfl (fun _ => rfl) ?_)
          refine tr_if2 rfl (m32_of (x := 1) ⟨by decide, by decide⟩) (fun _ => ?_) (fun c1 => absurd (show (1 : Int) ≠ 0 by decide) c1)
          iterate 4 (refine tr_mv rfl (fun _ => rfl) ?_)
          refine tr_cmp2 rfl (m32_of (x := -1) ⟨by decide, by decide⟩) (m32_of (x := -1) ⟨by decide, by decide⟩) (fun _ => ?_) (fun c1 => absurd rfl c1)
          exact hpm 1 (-1) (fun _ g => by omega)
theorem s_23 (ha : isRow a n) (hb : isRow b n') (hab : a ≠ b) (hB : ∀ s, in32 (bOf σ s)) (hM : ∀ s, in32 (kOf σ s)) (hl : (σ.1 a).length ≤ n') (K : post (.inl none) (setR σ b (tog (cof (bOf σ) (kOf σ)) none (σ.1 a)))) :
    Tr Ls N 23 0 [some (mP (some 3)), some (mP (some a)), some (mP (some b)), none, none, none, none, none, none] [] σ post := by
  iterate 1 (refine tr_mv rfl (fun _ => rfl) ?_)
  refine tr_clear hb rfl rfl ?_
  iterate 6 (refine tr_mv rfl (fun _ => rfl) ?_)
  refine (s_23_loop ha hb hab hB hM (σ.1 a)).1 [] _ 0 none none none [] rfl rfl (by rw [setR_ne _ _ hab]; rfl) (setR_same _ _ _) (by omega) (by simpa using hl) ?_
  rw [setR_setR, List.nil_append]
  exact K
end TOG
