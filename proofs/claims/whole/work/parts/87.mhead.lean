/-! The model's headings. -/
section MHEAD
variable {Ls N k pc n n' nn b c t a q kd w d p X T : Nat} {L L0 : mLs} {st r as : List mV} {h h' : mH} {σ σ' σ'' : Sg} {post : tP} {x y z x' y' i i' s v m u lv : Int} {xs ys ss : List Int} {e : mE} {C : Nat → Nat → Prop} {R : Nat → Prop} {tx : List (List Int)} {en : List EnT} {D : TD} {o hd : Nat → Int}
theorem rget_cons0 (x : Int) (l : List Int) : rget (x :: l) 0 = x := by
  unfold rget
  rw [if_pos (by simp)]
  rfl
theorem fwE_row (hD : okTD D) (hT : okTx tx) (hE : okEn tx en) (ha : a < en.length) : (lvRow 1 (o 0) (o 1) (gthR D (o 2) (frm tx (en.getD a enD))).1 = [] ∧ fwE tx en D o a = 0) ∨ ∃ w l, lvRow 1 (o 0) (o 1) (gthR D (o 2) (frm tx (en.getD a enD))).1 = w :: l ∧ fwE tx en D o a = w := by
  unfold fwE kfE keyOf keyLv lvKey
  rw [if_neg (show ¬ ((1 : Int) = 2 ∨ (1 : Int) = 3) by decide)]
  cases hr : lvRow 1 (o 0) (o 1) (gthR D (o 2) (frm tx (en.getD a enD))).1 with
  | nil =>
    refine Or.inl ⟨rfl, ?_⟩
    rw [List.map_nil, List.nil_append, List.cons_append, rget_cons0]
    rfl
  | cons w l =>
    refine Or.inr ⟨w, l, rfl, ?_⟩
    rw [List.map_cons, List.cons_append, List.cons_append]
    rw [rget_cons0]
    omega
/-- the first weights -/
abbrev w1_ (D : TD) : List Int := w1 0 D.2.1
theorem s_299 (hX : X < 3) (hM : tlM X σ D) (hD : okTD D) (hO : opM X σ o) (hT : okTx tx) (hE : okEn tx en) (cT : mTx σ tx) (cE : mEn σ en) (hH : mHd σ hd) (ha : a < en.length) (K : ∀ σ', only cQ σ σ' → post (.inl (some (mI (hdgE tx en D o hd a)))) σ') :
    Tr Ls N 299 0 [some (mP (some 480)), some (mI (X : Int)), some (mI (a : Int)), none, none, none, none, none, none] [] σ post := by
  have hne := hE.1
  have he1 := hE.2.1 _ (en_mem ha)
  have hfo := frm_ok hT he1
  have hok := gthR_ok hD (bv := o 2) hfo.1 hfo.2.1
  have hlen := gthR_len D (o 2) (frm tx (en.getD a enD))
  repeat (first | refine tr_mgr rfl (by decide) rfl ?_ | refine tr_mgi rfl (by decide) (by decide) rfl ?_ | refine tr_mv rfl (fun _ => rfl) ?_)
  refine tr_vc (q := 480) rfl isO_480 rfl rfl rfl (s_289 hT cT cE ha hne he1 (fun σ1 r1 o1 => ?_))
  have p1 := cQ_row o1
  repeat (first | refine tr_mgr rfl (by decide) rfl ?_ | refine tr_mgi rfl (by decide) (by decide) rfl ?_ | refine tr_mv rfl (fun _ => rfl) ?_)
  refine tr_vc (q := 480) rfl isO_480 rfl rfl rfl (s_260 hX (hM.cq p1) hD (hO.cq p1) r1 hfo.1 hfo.2.1 (fun σ2 k2 _ o2 => ?_))
  rw [(gthR_rel D (o 2) _).1] at k2
  have p2 := p1.tr (cQ_eg o2)
  have r2 := r1.el o2 (fun i => by omega) (by omega)
  repeat (first | refine tr_mgr rfl (by decide) rfl ?_ | refine tr_mgi rfl (by decide) (by decide) rfl ?_ | refine tr_mv rfl (fun _ => rfl) ?_)
  refine tr_vc (q := 480) rfl isO_480 rfl rfl rfl (s_262 (lv := 1) hX (hO.cq p2) k2 hok (by omega) (by omega) (fun σ3 k3 o3 => ?_))
  have p3 := p2.tr (cQ_ko (o3.wk (fun q i h => Or.inr (Or.inl h))))
  have r3 := r2.el o3 (fun i => by omega) (by omega)
  have hM3 := hM.cq p3
  have hH3 : mHd σ3 hd := fun l hl => by
    rw [p3.2 512 l (fun g => by have := cQ_nin g; omega)]
    exact hH l hl
  have K' := K σ3 p3
  have hrow := fwE_row (o := o) hD hT hE ha
  have hfi := fwE_in (o := o) hD hT hE ha
  have hrin := lvRow_in hok 1 (o 0) (o 1)
  unfold hdgE at K'
  have hW93 := lvRow_len 1 (o 0) (o 1) (gthR D (o 2) (frm tx (en.getD a enD))).1
  generalize lvRow 1 (o 0) (o 1) (gthR D (o 2) (frm tx (en.getD a enD))).1 = W at *
  generalize fwE tx en D o a = fw at *
  generalize (gthR D (o 2) (frm tx (en.getD a enD))).1.length = GL at *
  generalize frm tx (en.getD a enD) = fr at *
  -- the letter, and the end
  have h150 : ∀ (H : Int) (v4 v5 : Int) (v6 v7 v8 : Option mV), H = hdG (hdO D hd) fw 12 0 (-1) 1 → (-1 ≤ H ∧ H < 12) → Tr Ls N 299 150 [some (mP (some 480)), some (mI (X : Int)), some (mI (a : Int)), some (mI H), some (mI v4), some (mI v5), v6, v7, v8] [] σ3 post := by
    intro H v4 v5 v6 v7 v8 eH hHi
    rw [← eH] at K'
    iterate 2 (refine tr_mv rfl (fun _ => rfl) ?_)
    refine tr_cmp2 rfl (m32_of (by omega)) (m32_of (by omega)) (fun c1 => ?_) (fun c1 => ?_)
    · have h206 : ∀ (v6 : Int), Tr Ls N 299 206 [some (mP (some 480)), some (mI (X : Int)), some (mI (a : Int)), some (mI H), some (mI v4), some (mI (fstL fr)), some (mI v6), v7, v8] [] σ3 post := by
        intro v6
        have hli := fstL_in (ss := fr)
        generalize fstL fr = Lt at *
        unfold hdgR at K'
        have h231 : (H = -1 ∨ Lt = -1 ∨ Lt % 12 / 6 = H % 12 / 6) → Tr Ls N 299 231 [some (mP (some 480)), some (mI (X : Int)), some (mI (a : Int)), some (mI H), some (mI v4), some (mI Lt), some (mI v6), v7, v8] [] σ3 post := by
          intro g
          rw [if_pos g] at K'
          iterate 1 (refine tr_mv rfl (fun _ => rfl) ?_)
          exact tr_ri rfl rfl K'
        iterate 2 (refine tr_mv rfl (fun _ => rfl) ?_)
        refine tr_cmp2 rfl (m32_of (by omega)) (m32_of (by omega)) (fun c2 => ?_) (fun c2 => ?_)
        · exact h231 (Or.inr (Or.inl c2))
        · iterate 1 (refine tr_mv rfl (fun _ => rfl) ?_)
          refine tr_stat rfl rfl rfl (s_216 (by omega) ?_)
          iterate 1 (refine tr_mv rfl (fun _ => rfl) ?_)
          refine tr_stat rfl rfl rfl (s_216 (by omega) ?_)
          refine tr_cmp2 rfl (m32_of (by omega)) (m32_of (by omega)) (fun c3 => ?_) (fun c3 => ?_)
          · exact h231 (Or.inr (Or.inr c3))
          · rw [if_neg (by omega)] at K'
            iterate 4 (refine tr_mv rfl (fun _ => rfl) ?_)
            exact tr_ri rfl rfl K'
      have loop : ∀ (rp suf : List Int), fr = rp.reverse ++ suf → Tr Ls N 299 168 [some (mP (some 480)), some (mI (X : Int)), some (mI (a : Int)), some (mI H), some (mI v4), some (mI (fstL suf)), some (mI ((rp.length : Int) - 1)), v7, v8] [] σ3 post := by
        intro rp
        induction rp with
        | nil =>
          intro suf e
          iterate 1 (refine tr_mv rfl (fun _ => rfl) ?_)
          refine tr_if2 rfl (m32_of (x := ((([] : List Int).length : Nat) : Int) - 1) ⟨by decide, by decide⟩) (fun _ => ?_) (fun c9 => absurd (show ((([] : List Int).length : Nat) : Int) - 1 < 0 by decide) c9)
          rw [show suf = fr by rw [e]; rfl]
          exact h206 _
        | cons y rp ih =>
          intro suf e
          have hl2 : (y :: rp).length = rp.length + 1 := rfl
          have hlen2 : fr.length = rp.length + 1 + suf.length := by rw [e]; simp; omega
          have hgy : σ3.2 489 rp.length = y := by
            rw [r3.2.1 _ (by omega), e, List.getD_eq_getElem?_getD]
            simp
          have hy := hfo.1 y (by rw [e]; simp)
          have h198 : ∀ w, w = fstL (y :: suf) → Tr Ls N 299 198 [some (mP (some 480)), some (mI (X : Int)), some (mI (a : Int)), some (mI H), some (mI v4), some (mI (fstL suf)), some (mI (((y :: rp).length : Int) - 1)), v7, v8] [mI w] σ3 post := by
            intro w ew
            subst ew
            iterate 3 (refine tr_mv rfl (fun _ => rfl) ?_)
            show Tr Ls N 299 168 [some (mP (some 480)), some (mI (X : Int)), some (mI (a : Int)), some (mI H), some (mI v4), some (mI (fstL (y :: suf))), some (mI (((y :: rp).length : Int) - 1 + -1)), v7, v8] [] σ3 post
            rw [show ((y :: rp).length : Int) - 1 + -1 = (rp.length : Int) - 1 by omega]
            exact ih (y :: suf) (by rw [e]; simp)
          iterate 1 (refine tr_mv rfl (fun _ => rfl) ?_)
          refine tr_if2 rfl (m32_of (by omega)) (fun c9 => absurd c9 (by show ¬ _ < _; omega)) (fun _ => ?_)
          repeat (first | refine tr_mgr rfl (by decide) rfl ?_ | refine tr_mgi rfl (by decide) (by decide) rfl ?_ | refine tr_mv rfl (fun _ => rfl) ?_)
          refine tr_man (j := rp.length) rfl (by omega) (by omega) rfl (fun _ => rfl) rfl rfl rfl ?_
          rw [hgy]
          refine tr_stat rfl rfl rfl (s_213 (by omega) ?_)
          first | refine tr_ib rfl (fun c4 => ?_) (fun c4 => ?_) | refine tr_ibn rfl (fun c4 => ?_) (fun c4 => ?_)
          · iterate 1 (refine tr_mv rfl (fun _ => rfl) ?_)
            exact h198 _ (by show _ = (if isLet y then y else fstL suf); rw [if_neg c4])
          · repeat (first | refine tr_mgr rfl (by decide) rfl ?_ | refine tr_mgi rfl (by decide) (by decide) rfl ?_ | refine tr_mv rfl (fun _ => rfl) ?_)
            refine tr_man (j := rp.length) rfl (by omega) (by omega) rfl (fun _ => rfl) rfl rfl rfl ?_
            rw [hgy]
            iterate 1 (refine tr_mv rfl (fun _ => rfl) ?_)
            exact h198 _ (by show _ = (if isLet y then y else fstL suf); rw [if_pos c4])
      iterate 3 (refine tr_mv rfl (fun _ => rfl) ?_)
      refine tr_mgi rfl (by decide) (by decide) rfl ?_
      rw [r3.1]
      iterate 3 (refine tr_mv rfl (fun _ => rfl) ?_)
      have h9 := loop fr.reverse [] (by simp)
      rw [List.length_reverse] at h9
      exact h9
    · have c1 : H = -1 := Decidable.byContradiction c1
      unfold hdgR at K'
      rw [if_pos (Or.inl c1), c1] at K'
      iterate 1 (refine tr_mv rfl (fun _ => rfl) ?_)
      exact tr_ri rfl rfl K'
  have hT4 : X < 4 := by omega
  have loop : ∀ (d i : Nat) (hh m : Int) (v6 v7 v8 : Option mV), i + d = 12 → (-1 ≤ hh ∧ hh < i) → (0 ≤ m ∧ m ≤ 100) → hdG (hdO D hd) fw d i hh (if m < 1 then 1 else m) = hdG (hdO D hd) fw 12 0 (-1) 1 → (i = 0 → hh = -1) → Tr Ls N 299 24 [some (mP (some 480)), some (mI (X : Int)), some (mI (a : Int)), some (mI hh), some (mI m), some (mI (i : Int)), v6, v7, v8] [] σ3 post := by
    intro d
    induction d with
    | zero =>
      intro i hh m v6 v7 v8 e hhi hm hK h0
      iterate 2 (refine tr_mv rfl (fun _ => rfl) ?_)
      refine tr_cmp2 rfl (m32_of (by omega)) (m32_of (x := 12) ⟨by decide, by decide⟩) (fun _ => ?_) (fun c1 => absurd (show (12 : Int) ≤ (i : Int) by omega) c1)
      exact h150 hh m i _ _ _ hK (by omega)
    | succ d ih =>
      intro i hh m v6 v7 v8 e hhi hm hK h0
      iterate 2 (refine tr_mv rfl (fun _ => rfl) ?_)
      refine tr_cmp2 rfl (m32_of (by omega)) (m32_of (x := 12) ⟨by decide, by decide⟩) (fun c1 => absurd c1 (by show ¬ (12 : Int) ≤ _; omega)) (fun _ => ?_)
      repeat (first | refine tr_mgr rfl (by decide) rfl ?_ | refine tr_mgi rfl (by decide) (by decide) rfl ?_ | refine tr_mv rfl (fun _ => rfl) ?_)
      rw [k3.1]
      rcases hrow with ⟨hw1, hw2⟩ | ⟨w, l, hw1, hw2⟩
      · rw [hw1]
        refine tr_if2 rfl (m32_of (x := 0) ⟨by decide, by decide⟩) (fun _ => ?_) (fun c9 => absurd (show (0 : Int) ≤ 0 by decide) c9)
        rw [hw2] at hK h150
        rw [hdG_zero _ _ _ _ _ (by split <;> omega)] at hK
        exact h150 hh m i _ _ _ hK (by omega)
      · have hWl : 1 ≤ W.length := by rw [hw1]; simp
        refine tr_if2 rfl (m32_of (by omega)) (fun c9 => absurd c9 (by show ¬ _ ≤ _; omega)) (fun _ => ?_)
        have hw0 : σ3.2 509 (0 + 0) = fw := by
          rw [k3.2.get hWl, hw1, hw2]
          rfl
        have hwi := hrin w (by rw [hw1]; exact List.mem_cons_self)
        have hin := hdO_in hD hd i
        obtain ⟨h1, h2⟩ := hH3 i (by omega)
        unfold hdG at hK
        -- the letter's weight is known
        have h85 : ∀ (A : Int), in32 A → (A = -1 → hdO D hd i = 0) → (A ≠ -1 → 1 ≤ hdO D hd i) → Tr Ls N 299 85 [some (mP (some 480)), some (mI (X : Int)), some (mI (a : Int)), some (mI hh), some (mI m), some (mI (i : Int)), some (mI A), v7, v8] [mI (hdO D hd i)] σ3 post := by
          intro A hA hA1 hA2
          have h116 : ∀ (b : Int), (b = 1 ∧ (if m < 1 then 1 else m) ≤ hdO D hd i ∧ hdO D hd i ≤ fw) ∨ (b = 0 ∧ ¬ ((if m < 1 then 1 else m) ≤ hdO D hd i ∧ hdO D hd i ≤ fw)) → Tr Ls N 299 116 [some (mP (some 480)), some (mI (X : Int)), some (mI (a : Int)), some (mI hh), some (mI m), some (mI (i : Int)), some (mI A), some (mI (hdO D hd i)), v8] [mI b] σ3 post := by
            intro b hb
            rcases hb with ⟨rfl, hb⟩ | ⟨rfl, hb⟩
            · rw [if_pos hb] at hK
              have hge : 1 ≤ hdO D hd i := by
                have := hb.1
                split at this <;> omega
              iterate 2 (refine tr_mv rfl (fun _ => rfl) ?_)
              refine tr_if2 rfl (m32_of (x := 1) ⟨by decide, by decide⟩) (fun c9 => absurd c9 (by decide)) (fun _ => ?_)
              iterate 4 (refine tr_mv rfl (fun _ => rfl) ?_)
              refine tr_if2 rfl (m32_of (x := 1) ⟨by decide, by decide⟩) (fun c9 => absurd c9 (by decide)) (fun _ => ?_)
              iterate 5 (refine tr_mv rfl (fun _ => rfl) ?_)
              show Tr Ls N 299 24 [some (mP (some 480)), some (mI (X : Int)), some (mI (a : Int)), some (mI (i : Int)), some (mI (hdO D hd i)), some (mI ((i : Int) + 1)), some (mI A), some (mI (hdO D hd i)), some (mI 1)] [] σ3 post
              rw [show (i : Int) + 1 = ((i + 1 : Nat) : Int) by omega]
              exact ih (i + 1) i (hdO D hd i) _ _ _ (by omega) (by omega) (by omega) (by rw [if_neg (by omega)]; exact hK) (fun g => by omega)
            · rw [if_neg hb] at hK
              iterate 2 (refine tr_mv rfl (fun _ => rfl) ?_)
              refine tr_if2 rfl (m32_of (x := 0) ⟨by decide, by decide⟩) (fun _ => ?_) (fun c9 => absurd rfl c9)
              iterate 3 (refine tr_mv rfl (fun _ => rfl) ?_)
              refine tr_if2 rfl (m32_of (x := 0) ⟨by decide, by decide⟩) (fun _ => ?_) (fun c9 => absurd rfl c9)
              iterate 4 (refine tr_mv rfl (fun _ => rfl) ?_)
              show Tr Ls N 299 24 [some (mP (some 480)), some (mI (X : Int)), some (mI (a : Int)), some (mI hh), some (mI m), some (mI ((i : Int) + 1)), some (mI A), some (mI (hdO D hd i)), some (mI 0)] [] σ3 post
              rw [show (i : Int) + 1 = ((i + 1 : Nat) : Int) by omega]
              exact ih (i + 1) hh m _ _ _ (by omega) (by omega) hm hK (fun g => by omega)
          have hno : ∀ g : ¬ ((if m < 1 then 1 else m) ≤ hdO D hd i ∧ hdO D hd i ≤ fw), Tr Ls N 299 115 [some (mP (some 480)), some (mI (X : Int)), some (mI (a : Int)), some (mI hh), some (mI m), some (mI (i : Int)), some (mI A), some (mI (hdO D hd i)), v8] [] σ3 post := by
            intro g
            iterate 1 (refine tr_mv rfl (fun _ => rfl) ?_)
            exact h116 0 (Or.inr ⟨rfl, g⟩)
          iterate 3 (refine tr_mv rfl (fun _ => rfl) ?_)
          refine tr_cmp2 rfl (m32_of (by omega)) (m32_of (by omega)) (fun c1 => ?_) (fun c1 => ?_)
          · refine hno (fun g => ?_)
            have := hA1 c1
            have g1 := g.1
            split at g1 <;> omega
          · have hge := hA2 c1
            repeat (first | refine tr_mgr rfl (by decide) rfl ?_ | refine tr_mgi rfl (by decide) (by decide) rfl ?_ | refine tr_mv rfl (fun _ => rfl) ?_)
            refine tr_man (j := 0 + 0) rfl (by omega) (by omega) rfl (fun _ => rfl) rfl rfl rfl ?_
            rw [hw0]
            refine tr_cmp2 rfl (m32_of (by omega)) (m32_of (by omega)) (fun c2 => ?_) (fun c2 => ?_)
            · exact hno (fun g => by omega)
            · iterate 2 (refine tr_mv rfl (fun _ => rfl) ?_)
              refine tr_cmp2 rfl (m32_of (by omega)) (m32_of (by omega)) (fun c3 => ?_) (fun c3 => ?_)
              · refine hno (fun g => ?_)
                have g1 := g.1
                split at g1 <;> omega
              · iterate 2 (refine tr_mv rfl (fun _ => rfl) ?_)
                exact h116 1 (Or.inl ⟨rfl, by split <;> omega, by omega⟩)
        have h61 : ∀ (A : Int), (A = -1 ∧ hdO D hd i = 0) ∨ (∃ p : Nat, A = (p : Int) ∧ p < D.1.length ∧ hdO D hd i = (w1_ D).getD p 0 ∧ 1 ≤ hdO D hd i) → Tr Ls N 299 61 [some (mP (some 480)), some (mI (X : Int)), some (mI (a : Int)), some (mI hh), some (mI m), some (mI (i : Int)), v6, v7, v8] [mI A] σ3 post := by
          intro A hA
          have h48 := hD.2.1
          iterate 3 (refine tr_mv rfl (fun _ => rfl) ?_)
          rcases hA with ⟨rfl, hA⟩ | ⟨p, rfl, hp, hA, hA1⟩
          · refine tr_cmp2 rfl (m32_of (x := -1) ⟨by decide, by decide⟩) (m32_of (x := -1) ⟨by decide, by decide⟩) (fun c9 => absurd rfl c9) (fun _ => ?_)
            iterate 2 (refine tr_mv rfl (fun _ => rfl) ?_)
            have := h85 (-1) ⟨by decide, by decide⟩ (fun _ => hA) (fun g => absurd rfl g)
            rw [hA] at this
            exact this
          · refine tr_cmp2 rfl (m32_of (by omega)) (m32_of (x := -1) ⟨by decide, by decide⟩) (fun _ => ?_) (fun c9 => absurd (show (p : Int) ≠ -1 by omega) c9)
            repeat (first | refine tr_mgr rfl (by decide) rfl ?_ | refine tr_mgi rfl (by decide) (by decide) rfl ?_ | refine tr_mv rfl (fun _ => rfl) ?_)
            refine tr_man (j := 48 * X + p) rfl (by omega) (by omega) rfl (fun _ => rfl) rfl rfl rfl ?_
            rw [hM3.2.2.1.get (by rw [w1_len, ← hD.1]; exact hp)]
            have := h85 p (by omega) (fun g => by omega) (fun _ => hA1)
            rw [hA] at this
            exact this
        repeat (first | refine tr_mgr rfl (by decide) rfl ?_ | refine tr_mgi rfl (by decide) (by decide) rfl ?_ | refine tr_mv rfl (fun _ => rfl) ?_)
        refine tr_man (j := i) rfl (by omega) (by omega) rfl (fun _ => rfl) rfl rfl rfl ?_
        rw [h1]
        refine tr_if2 rfl (m32_of (by omega)) (fun c1 => ?_) (fun c1 => ?_)
        · iterate 1 (refine tr_mv rfl (fun _ => rfl) ?_)
          exact h61 (-1) (Or.inl ⟨rfl, by unfold hdO; rw [if_neg (by omega)]⟩)
        · have hd1 : hd i = 1 := by omega
          have hf : hdO D hd i = fwc D ((i : Int) + 1) := if_pos hd1
          have hfc := fwc_in hD ((i : Int) + 1)
          repeat (first | refine tr_mgr rfl (by decide) rfl ?_ | refine tr_mgi rfl (by decide) (by decide) rfl ?_ | refine tr_mv rfl (fun _ => rfl) ?_)
          refine tr_vc (q := 480) rfl isO_480 rfl rfl rfl (s_232D hT4 (by omega) hM3 hD ?_)
          iterate 1 (refine tr_mv rfl (fun _ => rfl) ?_)
          rcases rplace_nat D.1 ((i : Int) + 1) with ⟨g1, g2⟩ | ⟨p, g1, g2, g3⟩
          · rw [g1]
            refine h61 (-1) (Or.inl ⟨rfl, ?_⟩)
            have : ¬ 1 ≤ fwc D ((i : Int) + 1) := fun g => g2 (hfc.2.2.mp g)
            omega
          · rw [g1]
            refine h61 p (Or.inr ⟨p, rfl, g2, ?_, by rw [hf]; exact hfc.2.2.mpr g3⟩)
            have e1 : rget (w1 0 D.2.1) (p : Int) = (w1 0 D.2.1).getD p 0 := rget_nat (by rw [w1_len, ← hD.1]; exact g2)
            have hpos := hfc.2.2.mpr g3
            rw [hf]
            unfold fwc at hpos ⊢
            rw [g1, e1] at hpos ⊢
            split at hpos
            · omega
            · rename_i g; rw [if_neg g]
  iterate 6 (refine tr_mv rfl (fun _ => rfl) ?_)
  exact loop 12 0 (-1) 0 none none none rfl (by omega) (by omega) rfl (fun _ => rfl)
end MHEAD
