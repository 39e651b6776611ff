/-! Headings, both sides. -/
def fwc (D : TD) (c : Int) : Int := if rget (w1 0 D.2.1) (rplace D.1 c) < 0 then 0 else rget (w1 0 D.2.1) (rplace D.1 c)
def hdO (D : TD) (hd : Nat → Int) (l : Nat) : Int := if hd l = 1 then fwc D ((l : Int) + 1) else 0
/-- from the letter i on, d of them: the one with the greatest weight that is at most w -/
def hdG (f : Nat → Int) (w : Int) : Nat → Nat → Int → Int → Int
  | 0, _, h, _ => h
  | d + 1, i, h, g => if g ≤ f i ∧ f i ≤ w then hdG f w d (i + 1) (i : Int) (f i) else hdG f w d (i + 1) h g
def fstL : List Int → Int
  | [] => -1
  | s :: ss => if isLet s then s else fstL ss
/-- beneath which heading -/
def hdgR (h l : Int) : Int := if h = -1 ∨ l = -1 ∨ l % 12 / 6 = h % 12 / 6 then h else 100 + h
def hdgE (tx : List (List Int)) (en : List EnT) (D : TD) (o : Nat → Int) (hd : Nat → Int) (i : Nat) : Int := hdgR (hdG (hdO D hd) (fwE tx en D o i) 12 0 (-1) 1) (fstL (frm tx (en.getD i enD)))
def cHd (σ : Sg) (hd : Nat → Int) : Prop := ∀ l, l < 12 → σ.2 34 l = hd l ∧ (hd l = 0 ∨ hd l = 1)
theorem fwc_in {D : TD} (hD : okTD D) (c : Int) : 0 ≤ fwc D c ∧ fwc D c ≤ 48 ∧ (1 ≤ fwc D c ↔ c ∈ D.1) := by
  unfold fwc
  rcases rplace_or D.1 c with ⟨g1, g2⟩ | ⟨g1, g2, g3⟩
  · rw [g1, show rget (w1 0 D.2.1) (-1) = -1 from if_neg (by omega), if_pos (by decide)]
    exact ⟨Int.le_refl _, by decide, fun h => absurd h (by decide), fun h => absurd h g2⟩
  · have h := wOf_in hD g3 0
    have h1 : 1 ≤ rget (w1 0 D.2.1) (rplace D.1 c) ∧ rget (w1 0 D.2.1) (rplace D.1 c) ≤ 48 := h.1
    rw [if_neg (by omega)]
    exact ⟨by omega, h1.2, fun _ => g3, fun _ => h1.1⟩
theorem hdO_in {D : TD} (hD : okTD D) (hd : Nat → Int) (l : Nat) : 0 ≤ hdO D hd l ∧ hdO D hd l ≤ 48 := by
  have := fwc_in hD ((l : Int) + 1)
  unfold hdO
  split <;> omega
theorem hdG_in (f : Nat → Int) (w : Int) : ∀ (d i : Nat) (h g : Int), -1 ≤ h ∧ h < i + d → (-1 ≤ hdG f w d i h g ∧ hdG f w d i h g < i + d)
  | 0, i, h, g, hh => by unfold hdG; exact hh
  | d + 1, i, h, g, hh => by
    unfold hdG
    split
    · have := hdG_in f w d (i + 1) (i : Int) (f i) (by omega)
      omega
    · have := hdG_in f w d (i + 1) h g (by omega)
      omega
theorem fstL_in {ss : List Int} : fstL ss = -1 ∨ isLet (fstL ss) := by
  induction ss with
  | nil => exact Or.inl rfl
  | cons s ss ih =>
    unfold fstL
    split
    · rename_i g; exact Or.inr g
    · exact ih
section HEAD
variable {Ls N k pc n n' nn b c t a q kd w d p X T : Nat} {L L0 : mLs} {st r as : List mV} {h h' : mH} {σ σ' σ'' : Sg} {post : tP} {x y z x' y' i i' s v m u lv : Int} {xs ys ss : List Int} {e : mE} {C : Nat → Nat → Prop} {R : Nat → Prop} {tx : List (List Int)} {en : List EnT} {D : TD} {o hd : Nat → Int}
theorem s_195 (ht : isT t) (hD2 : okTD D) (hD : tlC t σ D) (hH : cHd σ hd) (hx : in32 x) (K : post (.inl (some (mI (hdG (hdO D hd) x 12 0 (-1) 1)))) σ) : Tr Ls N 195 0 [some (mP (some 2)), some (mP (some t)), some (mI x), none, none, none, none] [] σ post := by
  have loop : ∀ (d i : Nat) (h g : Int) (v6 : Option mV), i + d = 12 → 0 ≤ g ∧ g ≤ 100 → -1 ≤ h ∧ h < 12 → post (.inl (some (mI (hdG (hdO D hd) x d i h g)))) σ → Tr Ls N 195 8 [some (mP (some 2)), some (mP (some t)), some (mI x), some (mI h), some (mI g), some (mI (i : Int)), v6] [] σ post := by
    intro d
    induction d with
    | zero =>
      intro i h g v6 e hg hh K'
      iterate 2 (refine tr_mv rfl (fun _ => rfl) ?_)
      refine tr_cmp2 rfl (m32_of (by omega)) (m32_of (x := 12) ⟨by decide, by decide⟩) (fun _ => ?_) (fun c1 => absurd (show (12 : Int) ≤ (i : Int) by omega) c1)
      iterate 1 (refine tr_mv rfl (fun _ => rfl) ?_)
      exact tr_ri rfl rfl K'
    | succ d ih =>
      intro i h g v6 e hg hh K'
      have hin := hdO_in hD2 hd i
      obtain ⟨h1, h2⟩ := hH i (by omega)
      unfold hdG at K'
      have h38 : ∀ w, w = hdO D hd i → Tr Ls N 195 38 [some (mP (some 2)), some (mP (some t)), some (mI x), some (mI h), some (mI g), some (mI (i : Int)), v6] [mI w] σ post := by
        intro w ew
        subst ew
        have h60 : ∀ h' g', (0 ≤ g' ∧ g' ≤ 100) → (-1 ≤ h' ∧ h' < 12) → post (.inl (some (mI (hdG (hdO D hd) x d (i + 1) h' g')))) σ → Tr Ls N 195 60 [some (mP (some 2)), some (mP (some t)), some (mI x), some (mI h'), some (mI g'), some (mI (i : Int)), some (mI (hdO D hd i))] [] σ post := by
          intro h' g' hg' hh' K2
          iterate 2 (refine tr_mv rfl (fun _ => rfl) ?_)
          show Tr Ls N 195 8 [some (mP (some 2)), some (mP (some t)), some (mI x), some (mI h'), some (mI g'), some (mI ((i : Int) + 1)), some (mI (hdO D hd i))] [] σ post
          rw [show (i : Int) + 1 = ((i + 1 : Nat) : Int) by omega]
          exact ih (i + 1) h' g' _ (by omega) hg' hh' K2
        iterate 3 (refine tr_mv rfl (fun _ => rfl) ?_)
        refine tr_cmp2 rfl (m32_of (by omega)) (m32_of (by omega)) (fun c1 => ?_) (fun c1 => ?_)
        · rw [if_neg (by omega)] at K'
          exact h60 h g hg hh K'
        · iterate 2 (refine tr_mv rfl (fun _ => rfl) ?_)
          refine tr_cmp2 rfl (m32_of (by omega)) (m32_of (by omega)) (fun c2 => ?_) (fun c2 => ?_)
          · rw [if_neg (by omega)] at K'
            exact h60 h g hg hh K'
          · rw [if_pos (by omega)] at K'
            iterate 4 (refine tr_mv rfl (fun _ => rfl) ?_)
            exact h60 _ _ (by omega) (by omega) K'
      iterate 2 (refine tr_mv rfl (fun _ => rfl) ?_)
      refine tr_cmp2 rfl (m32_of (by omega)) (m32_of (x := 12) ⟨by decide, by decide⟩) (fun c1 => absurd c1 (by show ¬ (12 : Int) ≤ _; omega)) (fun _ => ?_)
      repeat (first | refine tr_gr rfl ⟨by decide, rfl⟩ (by decide) rfl ?_ | refine tr_gi rfl (by decide) ⟨by decide, rfl⟩ (by decide) rfl rfl ?_ | refine tr_gr rfl (by assumption) (by decide) (by assumption) ?_ | refine tr_gi rfl (by decide) (by assumption) (by decide) (by assumption) (by assumption) ?_ | (refine tr_rem ?_ ?_ rfl ?_; omega; omega) | (refine tr_div ?_ ?_ rfl ?_; omega; omega) | refine tr_mv rfl (fun _ => rfl) ?_ | refine tr_ia2 (m32_of (by omega)) (by omega) rfl (fun _ => rfl) rfl (by decide) (by decide) (fun _ => rfl) ?_ | refine tr_size (by assumption) rfl rfl ?_ | refine tr_at2 (by assumption) (m32_of (by omega)) rfl rfl ?_)
      rw [Int.toNat_natCast, h1]
      refine tr_if2 rfl (m32_of (by omega)) (fun c1 => ?_) (fun c1 => ?_)
      · iterate 1 (refine tr_mv rfl (fun _ => rfl) ?_)
        exact h38 0 (by unfold hdO; rw [if_neg (by omega)])
      · iterate 2 (refine tr_mv rfl (fun _ => rfl) ?_)
        refine tr_stat rfl rfl rfl (s_185 ?_)
        refine tr_vc (q := t) rfl (T_O ht) rfl rfl rfl (s_114 ht (by omega) (fun z hz => ?_) ?_)
        · rw [hD.2.2.1] at hz
          have := w1_pos hD2.2.2.2.2.2.2.2.1 z hz
          omega
        rw [hD.2.2.1, hD.1]
        iterate 1 (refine tr_mv rfl (fun _ => rfl) ?_)
        exact h38 _ (by have e9 : hd i = 1 := by omega
                        unfold hdO
                        rw [if_pos e9]
                        rfl)
  iterate 6 (refine tr_mv rfl (fun _ => rfl) ?_)
  exact loop 12 0 (-1) 1 none rfl (by omega) (by omega) K
theorem s_196 (hb : isRow b n) (hs : σ.1 b = ss) (hin : ∀ s ∈ ss, in32 s) (K : post (.inl (some (mI (fstL ss)))) σ) : Tr Ls N 196 0 [some (mP (some b)), none] [] σ post := by
  refine tr_fact fun ⟨_, hr⟩ => ?_
  have hl := rep_len hr hb
  have hsm := isRow_small hb
  rw [hs] at hl
  have loop : ∀ (rest done : List Int), ss = done ++ rest → post (.inl (some (mI (fstL rest)))) σ → Tr Ls N 196 2 [some (mP (some b)), some (mI (done.length : Int))] [] σ post := by
    intro rest
    induction rest with
    | nil =>
      intro done e K'
      rw [List.append_nil] at e
      have e9 := congrArg List.length e
      iterate 2 (refine tr_mv rfl (fun _ => rfl) ?_)
      refine tr_size hb rfl rfl ?_
      rw [hs]
      refine tr_cmp2 rfl (m32_of (by omega)) (m32_of (by omega)) (fun _ => ?_) (fun c1 => absurd (show (ss.length : Int) ≤ (done.length : Int) by omega) c1)
      iterate 1 (refine tr_mv rfl (fun _ => rfl) ?_)
      exact tr_ri rfl rfl K'
    | cons y rest ih =>
      intro done e K'
      have hlen : ss.length = done.length + 1 + rest.length := by rw [e]; simp; omega
      have hy := hin y (by rw [e]; simp)
      unfold fstL at K'
      iterate 2 (refine tr_mv rfl (fun _ => rfl) ?_)
      refine tr_size hb rfl rfl ?_
      rw [hs]
      refine tr_cmp2 rfl (m32_of (by omega)) (m32_of (by omega)) (fun c1 => absurd c1 (by show ¬ _ ≤ _; omega)) (fun _ => ?_)
      iterate 2 (refine tr_mv rfl (fun _ => rfl) ?_)
      refine tr_at2 hb (m32_of (by omega)) rfl rfl ?_
      rw [hs, rget_app e]
      refine tr_stat rfl rfl rfl (s_178 hy ?_)
      first | refine tr_ib rfl (fun c1 => ?_) (fun c1 => ?_) | refine tr_ibn rfl (fun c1 => ?_) (fun c1 => ?_)
      · rw [if_neg c1] at K'
        iterate 2 (refine tr_mv rfl (fun _ => rfl) ?_)
        show Tr Ls N 196 2 [some (mP (some b)), some (mI ((done.length : Int) + 1))] [] σ post
        rw [show (done.length : Int) + 1 = ((done ++ [y]).length : Int) by simp]
        exact ih (done ++ [y]) (by rw [e]; simp) K'
      · rw [if_pos c1] at K'
        iterate 2 (refine tr_mv rfl (fun _ => rfl) ?_)
        refine tr_at2 hb (m32_of (by omega)) rfl rfl ?_
        rw [hs, rget_app e]
        exact tr_ri rfl rfl K'
  iterate 2 (refine tr_mv rfl (fun _ => rfl) ?_)
  exact loop ss [] rfl K
theorem fwE_in (hD : okTD D) (hT : okTx tx) (hE : okEn tx en) (ha : a < en.length) : 0 ≤ fwE tx en D o a ∧ fwE tx en D o a ≤ 200 := by
  have hfo := frm_ok hT (hE.2.1 _ (en_mem ha))
  have hkin := keyOf_in (d := 4) (o := o) hD hfo.1 hfo.2.1
  have hne : 1 ≤ (kfE tx en D o a).length := by
    unfold kfE keyOf keyLv lvKey
    simp only [List.length_append, List.length_singleton]
    omega
  have := hkin _ (show (kfE tx en D o a).getD 0 0 ∈ kfE tx en D o a from by
    rw [List.getD_eq_getElem?_getD, List.getElem?_eq_getElem (by omega)]
    exact List.getElem_mem _)
  have e : rget (kfE tx en D o a) 0 = (kfE tx en D o a).getD 0 0 := rget_nat (p := 0) hne
  unfold fwE
  omega
theorem s_194 (hX : X < 3) (hT : okTx tx) (hE : okEn tx en) (cT : cTx σ tx) (cE : cEn σ en) (hD2 : okTD D) (hD : tlC (273 + 29 * X) σ D) (hH : cHd σ hd) (hfw : σ.1 ((295 + 29 * X) + 3) = fwsE tx en D o) (ha : a < en.length) (K : ∀ xs, post (.inl (some (mI (hdgE tx en D o hd (mnO (prE en) a))))) (setR σ 142 xs)) :
    Tr Ls N 194 0 [some (mP (some 2)), some (mI (X : Int)), some (mI (a : Int)), none, none, none, none] [] σ post := by
  have hne := hE.1
  have hnt := hT.1
  have hpi := okPr_in hE a ha
  have hml := mnO_lt hE ha
  have hpe : σ.2 (360 + 5 * a) 1 = prE en a := (cE.2.1 a ha).2.1
  have he1 := hE.2.1 _ (en_mem hml)
  have hfo := frm_ok hT he1
  have hti := he1.1
  have tk := cE.2.2 (mnO (prE en) a) (by omega)
  have hfwi := fwE_in (o := o) hD2 hT hE hml
  have h19 : ∀ v3, Tr Ls N 194 19 [some (mP (some 2)), some (mI (X : Int)), some (mI (a : Int)), some (mI v3), none, none, none] [mI (mnO (prE en) a : Int)] σ post := by
    intro v3
    iterate 4 (refine tr_mv rfl (fun _ => rfl) ?_)
    refine tr_vc (q := 2) rfl ⟨by decide, by decide +kernel⟩ rfl rfl rfl (s_172 hX ?_)
    iterate 2 (refine tr_mv rfl (fun _ => rfl) ?_)
    refine tr_vc (q := 2) rfl ⟨by decide, by decide +kernel⟩ rfl rfl rfl (s_173 hX ?_)
    iterate 1 (refine tr_mv rfl (fun _ => rfl) ?_)
    refine tr_vc (q := (295 + 29 * X)) rfl (X_O hX) rfl rfl rfl (s_82 hX (by omega) ?_)
    have hfe : rget (σ.1 ((295 + 29 * X) + 3)) ((mnO (prE en) a : Nat) : Int) = fwE tx en D o (mnO (prE en) a) := by
      rw [hfw]
      unfold fwsE
      rw [rget_nat (by simpa using hml), List.getD_eq_getElem?_getD, List.getElem?_map, List.getElem?_range hml]
      rfl
    rw [hfe]
    refine tr_vc (q := 2) rfl ⟨by decide, by decide +kernel⟩ rfl rfl rfl (s_195 (t_Tl hX) hD2 hD hH (by omega) ?_)
    iterate 4 (refine tr_mv rfl (fun _ => rfl) ?_)
    refine tr_vc (q := 2) rfl ⟨by decide, by decide +kernel⟩ rfl rfl rfl (s_171 (show mnO (prE en) a < 24 by omega) ?_)
    repeat (first | refine tr_gr rfl ⟨by decide, rfl⟩ (by decide) rfl ?_ | refine tr_gi rfl (by decide) ⟨by decide, rfl⟩ (by decide) rfl rfl ?_ | refine tr_gr rfl (by assumption) (by decide) (by assumption) ?_ | refine tr_gi rfl (by decide) (by assumption) (by decide) (by assumption) (by assumption) ?_ | (refine tr_rem ?_ ?_ rfl ?_; omega; omega) | (refine tr_div ?_ ?_ rfl ?_; omega; omega) | refine tr_mv rfl (fun _ => rfl) ?_ | refine tr_ia2 (m32_of (by omega)) (by omega) rfl (fun _ => rfl) rfl (by decide) (by decide) (fun _ => rfl) ?_ | refine tr_size (by assumption) rfl rfl ?_ | refine tr_at2 (by assumption) (m32_of (by omega)) rfl rfl ?_)
    refine tr_vc (q := 2) rfl ⟨by decide, by decide +kernel⟩ rfl rfl rfl (s_193 (p := mnO (prE en) a) (by omega) (cE.2.1 _ hml).1 tk.1 tk.2.1 (by omega) (cT.2 _ hti) (by have := he1.2.2.2.2.1; omega) he1.2.2.1 ?_)
    rw [show (tx.getD (enT (en.getD (mnO (prE en) a) enD)) []).drop (enA (en.getD (mnO (prE en) a) enD)) ++ (if enK (en.getD (mnO (prE en) a) enD) = 2 then 28 :: (tx.getD (enT (en.getD (mnO (prE en) a) enD)) []).take (enA (en.getD (mnO (prE en) a) enD)) else []) = frm tx (en.getD (mnO (prE en) a) enD) from rfl]
    have K' := K (frm tx (en.getD (mnO (prE en) a) enD))
    generalize hσ2 : setR σ 142 (frm tx (en.getD (mnO (prE en) a) enD)) = σ2 at *
    have q142 : σ2.1 142 = frm tx (en.getD (mnO (prE en) a) enD) := by rw [← hσ2]; exact setR_same _ _ _
    repeat (first | refine tr_gr rfl ⟨by decide, rfl⟩ (by decide) rfl ?_ | refine tr_gi rfl (by decide) ⟨by decide, rfl⟩ (by decide) rfl rfl ?_ | refine tr_gr rfl (by assumption) (by decide) (by assumption) ?_ | refine tr_gi rfl (by decide) (by assumption) (by decide) (by assumption) (by assumption) ?_ | (refine tr_rem ?_ ?_ rfl ?_; omega; omega) | (refine tr_div ?_ ?_ rfl ?_; omega; omega) | refine tr_mv rfl (fun _ => rfl) ?_ | refine tr_ia2 (m32_of (by omega)) (by omega) rfl (fun _ => rfl) rfl (by decide) (by decide) (fun _ => rfl) ?_ | refine tr_size (by assumption) rfl rfl ?_ | refine tr_at2 (by assumption) (m32_of (by omega)) rfl rfl ?_)
    refine tr_stat rfl rfl rfl (s_196 r_142 q142 (fun s hs => by have := hfo.1 s hs; omega) ?_)
    unfold hdgE at K'
    have hhi := hdG_in (hdO D hd) (fwE tx en D o (mnO (prE en) a)) 12 0 (-1) 1 (by omega)
    have hli := fstL_in (ss := frm tx (en.getD (mnO (prE en) a) enD))
    generalize hdG (hdO D hd) (fwE tx en D o (mnO (prE en) a)) 12 0 (-1) 1 = H at *
    generalize fstL (frm tx (en.getD (mnO (prE en) a) enD)) = Lt at *
    unfold hdgR at K'
    have h90 : (H = -1 ∨ Lt = -1 ∨ Lt % 12 / 6 = H % 12 / 6) → Tr Ls N 194 90 [some (mP (some 2)), some (mI (X : Int)), some (mI (a : Int)), some (mI v3), some (mI (mnO (prE en) a : Int)), some (mI H), some (mI Lt)] [] σ2 post := by
      intro g
      rw [if_pos g] at K'
      iterate 1 (refine tr_mv rfl (fun _ => rfl) ?_)
      exact tr_ri rfl rfl K'
    iterate 3 (refine tr_mv rfl (fun _ => rfl) ?_)
    refine tr_cmp2 rfl (m32_of (by omega)) (m32_of (by omega)) (fun c1 => ?_) (fun c1 => ?_)
    · exact h90 (Or.inl c1)
    · iterate 2 (refine tr_mv rfl (fun _ => rfl) ?_)
      refine tr_cmp2 rfl (m32_of (by omega)) (m32_of (by omega)) (fun c2 => ?_) (fun c2 => ?_)
      · exact h90 (Or.inr (Or.inl c2))
      · iterate 1 (refine tr_mv rfl (fun _ => rfl) ?_)
        refine tr_stat rfl rfl rfl (s_183 (by omega) ?_)
        iterate 1 (refine tr_mv rfl (fun _ => rfl) ?_)
        refine tr_stat rfl rfl rfl (s_183 (by omega) ?_)
        refine tr_cmp2 rfl (m32_of (by omega)) (m32_of (by omega)) (fun c3 => ?_) (fun c3 => ?_)
        · rw [if_neg (by omega)] at K'
          iterate 3 (refine tr_mv rfl (fun _ => rfl) ?_)
          exact tr_ri rfl rfl K'
        · exact h90 (Or.inr (Or.inr (by omega)))
  iterate 2 (refine tr_mv rfl (fun _ => rfl) ?_)
  refine tr_vc (q := 2) rfl ⟨by decide, by decide +kernel⟩ rfl rfl rfl (s_171 (show a < 24 by omega) ?_)
  refine tr_vc (q := (360 + 5 * a)) rfl (E_O (e_E (by omega))) rfl rfl rfl (s_51 (e_E (by omega)) ?_)
  rw [hpe]
  iterate 3 (refine tr_mv rfl (fun _ => rfl) ?_)
  refine tr_cmp2 rfl (m32_of (by omega)) (m32_of (by omega)) (fun c1 => ?_) (fun c1 => ?_)
  · iterate 1 (refine tr_mv rfl (fun _ => rfl) ?_)
    have e9 : prE en a = (mnO (prE en) a : Int) := by
      rcases hE.2.2 a ha with g | ⟨p, g1, -⟩
      · exact absurd (show prE en a = -1 from g) c1
      · have e : prE en a = (p : Int) := g1
        rw [mnO_sub e, e]
    have := h19 (prE en a)
    rw [← e9] at this
    exact this
  · iterate 2 (refine tr_mv rfl (fun _ => rfl) ?_)
    have e9 : mnO (prE en) a = a := mnO_top (Decidable.byContradiction c1)
    have := h19 (prE en a)
    rw [e9] at this
    exact this
end HEAD
