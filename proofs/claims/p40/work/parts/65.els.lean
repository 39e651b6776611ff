/-! What holds of elements; putKey and what stands on it. -/
def okEl (e : El) : Prop := (0 ≤ e.1 ∧ e.1 ≤ 100) ∧ (1 ≤ e.2.1 ∧ e.2.1 ≤ 100) ∧ (1 ≤ e.2.2.1 ∧ e.2.2.1 ≤ 100) ∧ (0 ≤ e.2.2.2 ∧ e.2.2.2 ≤ 2) ∧ (e.2.2.2 = 1 → 1 ≤ e.1)
theorem okEl_mk {a b c k : Int} (h1 : 0 ≤ a ∧ a ≤ 100) (h2 : 1 ≤ b ∧ b ≤ 100) (h3 : 1 ≤ c ∧ c ≤ 100) (h4 : 0 ≤ k ∧ k ≤ 2) (h5 : k = 1 → 1 ≤ a) : okEl (a, b, c, k) := ⟨h1, h2, h3, h4, h5⟩
abbrev okEls (els : List El) : Prop := ∀ e ∈ els, okEl e
theorem tmk_kn {D : TD} (v : Int) : ∀ (ms : List Int) (c cl : Int) (p : Nat) (tk : List Int), kn D c → kn D (tmk D v ms c cl p tk).1
  | [], _, _, _, _, h => h
  | m :: ms, c, cl, p, tk, h => by
    unfold tmk
    split
    · split
      · rename_i g
        exact tmk_kn v ms _ _ _ _ g.2
      · exact tmk_kn v ms _ _ _ _ h
    · exact h
theorem itmC_kn {D : TD} (hD : okTD D) {ss : List Int} (h40 : okA40 ss) {p : Nat} (hp : p < ss.length) (hm : ¬ isMrk (ss.getD p 0)) (v : Int) (tk : List Int) : kn D (itmC D ss p v tk).1 := by
  unfold itmC
  refine tmk_kn _ _ _ _ _ _ ?_
  have hx : ss.getD p 0 ∈ ss := by
    rw [List.getD_eq_getElem?_getD, List.getElem?_eq_getElem hp]
    exact List.getElem_mem _
  have h4 := h40 _ hx
  unfold lnOf
  split
  · rename_i g; exact g.2
  · split
    · rename_i g; exact g.2
    · rw [drop_get hp]
      show kn D (0 * 100 + ss.getD p 0 + 1)
      rw [show (0 : Int) * 100 + ss.getD p 0 + 1 = ss.getD p 0 + 1 by omega]
      by_cases c : isLet (ss.getD p 0)
      · exact hD.2.2.2.2.2.2.2.2.2.2.2.1 _ c
      · exact Or.inl (hD.dg (by omega) (by omega))
theorem cdsOf_mem {D : TD} (hD : okTD D) {c x : Int} (hc : kn D c) (hx : x ∈ cdsOf D c) : x ∈ D.1 := by
  have h0 := rplace_or D.2.2.1 c
  unfold cdsOf at hx
  by_cases g : rplace D.2.2.1 c = -1
  · rw [if_pos g, List.mem_singleton] at hx
    rw [hx]
    rcases hc with g2 | g2
    · exact g2
    · rcases h0 with g3 | g3
      · exact absurd g2 g3.2
      · omega
  · rw [if_neg g] at hx
    obtain ⟨s, hs, rfl⟩ := List.mem_map.mp hx
    unfold sgs at hs
    obtain ⟨k, hk, rfl⟩ := List.mem_map.mp hs
    have hk := List.mem_range.mp hk
    rcases h0 with g3 | g3
    · exact absurd g3.1 g
    · have hm : rget D.2.2.2 (rplace D.2.2.1 c) ∈ D.2.2.2 := rget_mem (by have := hD.sg.1; omega)
      exact ((hD.2.2.2.2.2.2.2.2.2.2.1 _ hm).2 k (by omega) (by omega)).2
theorem okEl_wOf {D : TD} (hD : okTD D) {c kd : Int} (hc : c ∈ D.1) (hk : kd = 0 ∨ kd = 1) : okEl (wOf D c kd) := by
  have h := wOf_in hD hc kd
  refine ⟨by omega, by omega, by omega, ?_, ?_⟩
  · show 0 ≤ kd ∧ kd ≤ 2
    omega
  · intro _
    omega
theorem gStep_ok {D : TD} (hD : okTD D) {bv v : Int} {ss : List Int} (h40 : okA40 ss) (hls : ss.length ≤ 31) {p : Nat} (hp : p < ss.length) {S : GS} (hS : okEls S.1) : okEls (gStep D bv ss p v S).2.1 := by
  have hx : ss.getD p 0 ∈ ss := by
    rw [List.getD_eq_getElem?_getD, List.getElem?_eq_getElem hp]
    exact List.getElem_mem _
  have h4 := h40 _ hx
  unfold gStep
  split
  · rename_i g
    intro e he
    rcases List.mem_append.mp he with k | k
    · exact hS e k
    · rw [List.mem_singleton.mp k]
      have := mkK_in S.2.2
      exact okEl_mk (by omega) (by omega) (by omega) (by omega) (by omega)
  · rename_i gm
    split
    · rename_i g
      intro e he
      rcases List.mem_append.mp he with k | k
      · exact hS e k
      · have fw := fwN_in hD
        have hl1 := strp_len (digs (ss.drop p))
        have hl2 := digs_len (ss.drop p)
        have hl3 : (ss.drop p).length = ss.length - p := List.length_drop
        unfold numEls at k
        rcases List.mem_append.mp k with k | k
        · simp only [List.mem_cons, List.not_mem_nil, or_false] at k
          rcases k with k | k
          · rw [k]
            exact okEl_mk (by omega) (by omega) (by omega) (by omega) (by omega)
          · rw [k]
            exact okEl_mk (by omega) (by omega) (by omega) (by omega) (by omega)
        · obtain ⟨d, hd, rfl⟩ := List.mem_map.mp k
          have := digs_mem (strp_mem hd)
          exact okEl_mk (by omega) (by omega) (by omega) (by omega) (by omega)
    · intro e he
      rcases List.mem_append.mp he with k | k
      · exact hS e k
      · unfold elsOf at k
        obtain ⟨c, hc, rfl⟩ := List.mem_map.mp k
        exact okEl_wOf hD (cdsOf_mem hD (itmC_kn hD h40 hp gm v S.2.1) hc) (b2_in _)
theorem gth_ok {D : TD} (hD : okTD D) {bv : Int} {ss : List Int} (h40 : okA40 ss) (hls : ss.length ≤ 31) : ∀ (f p : Nat) (S : GS), okEls S.1 → okEls (gth D bv ss f p S).1
  | 0, p, S, h2 => h2
  | f + 1, p, S, h2 => by
    unfold gth
    split
    · exact h2
    · rename_i c0
      split
      · exact gth_ok hD h40 hls f (p + 1) S h2
      · exact gth_ok hD h40 hls f _ _ (gStep_ok hD h40 hls (by omega) h2)
theorem gthR_ok {D : TD} (hD : okTD D) {bv : Int} {ss : List Int} (h40 : okA40 ss) (hls : ss.length ≤ 31) : okEls (gthR D bv ss).1 := gth_ok hD h40 hls _ _ _ (fun e he => absurd he List.not_mem_nil)
theorem lvW_in {e : El} (h : okEl e) (lv sh : Int) : 0 ≤ lvW lv sh e ∧ lvW lv sh e ≤ 100 := by
  obtain ⟨h1, h2, h3, h4, h5⟩ := h
  unfold lvW
  split
  · split
    · omega
    · split <;> omega
  · split
    · omega
    · split
      · omega
      · split <;> omega
theorem lvRow_in {els : List El} (h : okEls els) (lv sh bw : Int) : ∀ w ∈ lvRow lv sh bw els, 1 ≤ w ∧ w ≤ 100 := by
  intro w hw
  unfold lvRow at hw
  obtain ⟨h1, h2⟩ := List.mem_filter.mp hw
  obtain ⟨e, he, rfl⟩ := List.mem_map.mp h1
  have he : e ∈ els := by
    split at he
    · exact List.mem_reverse.mp he
    · exact he
  have := lvW_in (h e he) lv sh
  have h2 := of_decide_eq_true h2
  omega
section PUTKEY
variable {Ls N N1 N2 k pc n n' nn b c t u a q d kb : Nat} {L L0 : mLs} {st r as : List mV} {h h' : mH} {σ σ' σ'' : Sg} {post : tP} {x y z x' y' i i' s v m w kd bv lv sh : Int} {xs ys tk ss ss2 : List Int} {els : List El} {e : mE} {D : TD} {o : Nat → Int} {S : GS} {ee : El} {l : Bool}
theorem r_131 : isRow 131 93 := ⟨by decide, by decide +kernel, by decide +kernel⟩
theorem r_133 : isRow 133 93 := ⟨by decide, by decide +kernel, by decide +kernel⟩
theorem r_135 : isRow 135 376 := ⟨by decide, by decide +kernel, by decide +kernel⟩
theorem r_137 : isRow 137 376 := ⟨by decide, by decide +kernel, by decide +kernel⟩
theorem el109 : isEl 109 := Or.inl rfl
theorem el120 : isEl 120 := Or.inr rfl
/-- what a key into kb changes -/
abbrev pkR (kb a : Nat) : Prop := elR 120 a ∨ a = 131 ∨ a = kb
/-- rows of signs, of keys, apart from the Collator's own -/
abbrev sgRow (b : Nat) : Prop := b < 108 ∨ b = 139 ∨ 140 < b
abbrev okKb (t kb : Nat) : Prop := isRow kb 376 ∧ ¬ rT t kb ∧ (kb = 135 ∨ kb = 137 ∨ 140 < kb)
theorem s_2 (ht : isT t) (hD2 : okTD D) (hD : tlC t σ D) (hO : opC t σ o) (hb : isRow b n) (hbs : sgRow b) (hs : σ.1 b = ss) (h40 : okA40 ss) (hls : ss.length ≤ 31) (hd : d ≤ 4) (hkb : okKb t kb) (hbk : b ≠ kb)
    (K : ∀ σ', σ'.1 kb = keyOf D o d ss → chg (pkR kb) (elC 120) σ σ' → post (.inl none) σ') :
    Tr Ls N 2 0 [some (mP (some 108)), some (mP (some t)), some (mI (d : Int)), some (mP (some b)), some (mP (some kb)), none] [] σ post := by
  obtain ⟨hkr, hkt, hk3⟩ := hkb
  have hok := gthR_ok hD2 (bv := o 2) h40 hls
  have hlen := gthR_len D (o 2) ss
  have loop : ∀ (dd : Nat) (lv : Int) (σ' : Sg) (acc : List Int), lv + dd = (d : Int) + 1 → 1 ≤ lv → elIs 120 σ' (gthR D (o 2) ss).1 (gthR D (o 2) ss).2.1 (gthR D (o 2) ss).2.2 → opC t σ' o → σ'.1 kb = acc → acc.length + dd * ((gthR D (o 2) ss).1.length + 1) ≤ 376 → chg (pkR kb) (elC 120) σ σ' → (∀ σ2, σ2.1 kb = acc ++ keyLv (o 0) (o 1) (gthR D (o 2) ss).1 dd lv → chg (pkR kb) (elC 120) σ σ2 → post (.inl none) σ2) → Tr Ls N 2 17 [some (mP (some 108)), some (mP (some t)), some (mI (d : Int)), some (mP (some b)), some (mP (some kb)), some (mI lv)] [] σ' post := by
    generalize (gthR D (o 2) ss) = G at *
    intro dd
    induction dd with
    | zero =>
      intro lv σ' acc e hlv hS hO' ha hal hc K'
      iterate 2 (refine tr_mv rfl (fun _ => rfl) ?_)
      refine tr_cmp2 rfl (m32_of (by omega)) (m32_of (by omega)) (fun _ => ?_) (fun c1 => absurd (show (d : Int) < lv by omega) c1)
      exact tr_ret rfl (fun _ => rfl) (K' σ' (by rw [ha]; simp [keyLv]) hc)
    | succ dd ih =>
      intro lv σ' acc e hlv hS hO' ha hal hc K'
      have hrow := lvRow_in hok lv (o 0) (o 1)
      have hrl := lvRow_len lv (o 0) (o 1) G.1
      have hkl := lvKey_len lv (o 0) (o 1) G.1
      have hal2 : acc.length + (G.1.length + 1) + dd * (G.1.length + 1) ≤ 376 := by rw [Nat.add_mul] at hal; omega
      unfold keyLv lvKey at K'
      unfold lvKey at hkl
      iterate 2 (refine tr_mv rfl (fun _ => rfl) ?_)
      refine tr_cmp2 rfl (m32_of (by omega)) (m32_of (by omega)) (fun c1 => absurd c1 (by show ¬ _ < _; omega)) (fun _ => ?_)
      iterate 2 (refine tr_mv rfl (fun _ => rfl) ?_)
      refine tr_cmp2 rfl (m32_of (by omega)) (m32_of (x := 4) ⟨by decide, by decide⟩) (fun c1 => absurd c1 (by show ¬ (4 : Int) < lv; omega)) (fun _ => ?_)
      repeat (first | refine tr_gr rfl ⟨by decide, rfl⟩ (by decide) rfl ?_ | refine tr_gi rfl (by decide) ⟨by decide, rfl⟩ (by decide) rfl rfl ?_ | refine tr_gr rfl (by assumption) (by decide) (by assumption) ?_ | refine tr_gi rfl (by decide) (by assumption) (by decide) (by assumption) (by assumption) ?_ | (refine tr_rem ?_ ?_ rfl ?_; omega; omega) | (refine tr_div ?_ ?_ rfl ?_; omega; omega) | refine tr_mv rfl (fun _ => rfl) ?_ | refine tr_ia2 (m32_of (by omega)) (by omega) rfl (fun _ => rfl) rfl (by decide) (by decide) (fun _ => rfl) ?_ | refine tr_size (by assumption) rfl rfl ?_ | refine tr_at2 (by assumption) (m32_of (by omega)) rfl rfl ?_)
      refine tr_vc (q := 120) rfl (L_O el120) rfl rfl rfl (s_45 ht el120 hO' hS r_131 (by omega) (by omega) (by decide) (by omega) ?_)
      generalize lvRow lv (o 0) (o 1) G.1 = R at *
      generalize hσ2 : setR σ' 131 R = σ2
      have q131 : σ2.1 131 = R := by rw [← hσ2, setR_same]
      have qkb : σ2.1 kb = acc := by rw [← hσ2, setR_ne _ _ (by omega)]; exact ha
      have qS : elIs 120 σ2 G.1 G.2.1 G.2.2 := by rw [← hσ2]; exact elIs_setR el120 hS (by omega)
      have qc : chg (pkR kb) (elC 120) σ σ2 := by rw [← hσ2]; exact hc.setR (Or.inr (Or.inl rfl))
      have qO : opC t σ2 o := by rw [← hσ2]; exact hO'
      have h76 : ∀ (X : List Int), X = (if lv = 2 ∨ lv = 3 then runsB 0 R else R.map (fun w => w + 1)) → Tr Ls N 2 76 [some (mP (some 108)), some (mP (some t)), some (mI (d : Int)), some (mP (some b)), some (mP (some kb)), some (mI lv)] [] (setR σ2 kb (acc ++ X)) post := by
        intro X eX
        rw [← eX] at K' hkl
        simp only [List.length_append, List.length_singleton] at hkl
        iterate 2 (refine tr_mv rfl (fun _ => rfl) ?_)
        refine tr_put hkr (by omega) rfl rfl ?_
        rw [setR_same, rput_lt (by simp; omega), setR_setR]
        iterate 2 (refine tr_mv rfl (fun _ => rfl) ?_)
        refine ih (lv + 1) _ (acc ++ X ++ [1]) (by omega) (by omega) (elIs_setR el120 qS (by omega)) qO (setR_same _ _ _) (by simp; omega) (qc.setR (Or.inr (Or.inr rfl))) (fun σ3 g1 g2 => K' σ3 ?_ g2)
        rw [g1]
        simp
      iterate 2 (refine tr_mv rfl (fun _ => rfl) ?_)
      refine tr_cmp2 rfl (m32_of (by omega)) (m32_of (by omega)) (fun c1 => ?_) (fun c1 => ?_)
      · repeat (first | refine tr_gr rfl ⟨by decide, rfl⟩ (by decide) rfl ?_ | refine tr_gi rfl (by decide) ⟨by decide, rfl⟩ (by decide) rfl rfl ?_ | refine tr_gr rfl (by assumption) (by decide) (by assumption) ?_ | refine tr_gi rfl (by decide) (by assumption) (by decide) (by assumption) (by assumption) ?_ | (refine tr_rem ?_ ?_ rfl ?_; omega; omega) | (refine tr_div ?_ ?_ rfl ?_; omega; omega) | refine tr_mv rfl (fun _ => rfl) ?_ | refine tr_ia2 (m32_of (by omega)) (by omega) rfl (fun _ => rfl) rfl (by decide) (by decide) (fun _ => rfl) ?_ | refine tr_size (by assumption) rfl rfl ?_ | refine tr_at2 (by assumption) (m32_of (by omega)) rfl rfl ?_)
        refine tr_stat rfl rfl rfl (s_5 r_131 hkr (by omega) (by rw [q131]; intro w hw; have := hrow w hw; omega) (by rw [qkb, q131]; omega) ?_)
        rw [qkb, q131]
        iterate 1 (refine tr_mv rfl (fun _ => rfl) ?_)
        exact h76 _ (by rw [if_pos (Or.inl c1)])
      · iterate 2 (refine tr_mv rfl (fun _ => rfl) ?_)
        refine tr_cmp2 rfl (m32_of (by omega)) (m32_of (by omega)) (fun c2 => ?_) (fun c2 => ?_)
        · repeat (first | refine tr_gr rfl ⟨by decide, rfl⟩ (by decide) rfl ?_ | refine tr_gi rfl (by decide) ⟨by decide, rfl⟩ (by decide) rfl rfl ?_ | refine tr_gr rfl (by assumption) (by decide) (by assumption) ?_ | refine tr_gi rfl (by decide) (by assumption) (by decide) (by assumption) (by assumption) ?_ | (refine tr_rem ?_ ?_ rfl ?_; omega; omega) | (refine tr_div ?_ ?_ rfl ?_; omega; omega) | refine tr_mv rfl (fun _ => rfl) ?_ | refine tr_ia2 (m32_of (by omega)) (by omega) rfl (fun _ => rfl) rfl (by decide) (by decide) (fun _ => rfl) ?_ | refine tr_size (by assumption) rfl rfl ?_ | refine tr_at2 (by assumption) (m32_of (by omega)) rfl rfl ?_)
          refine tr_stat rfl rfl rfl (s_4 r_131 hkr (by omega) (by rw [q131]; intro w hw; have := hrow w hw; omega) (by rw [qkb, q131]; omega) ?_)
          rw [qkb, q131]
          exact h76 _ (by rw [if_neg (fun g => g.elim c1 c2)])
        · have c2 : lv = 3 := Decidable.byContradiction c2
          repeat (first | refine tr_gr rfl ⟨by decide, rfl⟩ (by decide) rfl ?_ | refine tr_gi rfl (by decide) ⟨by decide, rfl⟩ (by decide) rfl rfl ?_ | refine tr_gr rfl (by assumption) (by decide) (by assumption) ?_ | refine tr_gi rfl (by decide) (by assumption) (by decide) (by assumption) (by assumption) ?_ | (refine tr_rem ?_ ?_ rfl ?_; omega; omega) | (refine tr_div ?_ ?_ rfl ?_; omega; omega) | refine tr_mv rfl (fun _ => rfl) ?_ | refine tr_ia2 (m32_of (by omega)) (by omega) rfl (fun _ => rfl) rfl (by decide) (by decide) (fun _ => rfl) ?_ | refine tr_size (by assumption) rfl rfl ?_ | refine tr_at2 (by assumption) (m32_of (by omega)) rfl rfl ?_)
          refine tr_stat rfl rfl rfl (s_5 r_131 hkr (by omega) (by rw [q131]; intro w hw; have := hrow w hw; omega) (by rw [qkb, q131]; omega) ?_)
          rw [qkb, q131]
          iterate 1 (refine tr_mv rfl (fun _ => rfl) ?_)
          exact h76 _ (by rw [if_pos (Or.inr c2)])
  repeat (first | refine tr_gr rfl ⟨by decide, rfl⟩ (by decide) rfl ?_ | refine tr_gi rfl (by decide) ⟨by decide, rfl⟩ (by decide) rfl rfl ?_ | refine tr_gr rfl (by assumption) (by decide) (by assumption) ?_ | refine tr_gi rfl (by decide) (by assumption) (by decide) (by assumption) (by assumption) ?_ | (refine tr_rem ?_ ?_ rfl ?_; omega; omega) | (refine tr_div ?_ ?_ rfl ?_; omega; omega) | refine tr_mv rfl (fun _ => rfl) ?_ | refine tr_ia2 (m32_of (by omega)) (by omega) rfl (fun _ => rfl) rfl (by decide) (by decide) (fun _ => rfl) ?_ | refine tr_size (by assumption) rfl rfl ?_ | refine tr_at2 (by assumption) (m32_of (by omega)) rfl rfl ?_)
  refine tr_vc (q := 120) rfl (L_O el120) rfl rfl rfl (s_35 ht el120 hD2 hD hO hb (by omega) hs h40 hls (fun σ1 g1 g2 => ?_))
  iterate 1 (refine tr_mv rfl (fun _ => rfl) ?_)
  refine tr_clear hkr rfl rfl ?_
  iterate 2 (refine tr_mv rfl (fun _ => rfl) ?_)
  have hc1 : chg (pkR kb) (elC 120) σ σ1 := g2.wk (fun a ha => Or.inl ha) (fun q i h => h)
  refine loop d 1 _ [] (by omega) (by omega) (elIs_setR el120 g1 (by omega)) (show opC t (setR σ1 kb []) o from (show opC t σ1 o from hO.el ht el120 g2)) (setR_same _ _ _) ?_ (hc1.setR (Or.inr (Or.inr rfl))) (fun σ2 k1 k2 => K σ2 k1 k2)
  have : d * ((gthR D (o 2) ss).1.length + 1) ≤ 4 * (3 * 31 + 1) := Nat.mul_le_mul hd (by omega)
  simp
  omega
theorem s_3 (ha : isRow a n) (K : post (.inl (some (mI (rget (σ.1 a) 0 - 1)))) σ) : Tr Ls N 3 0 [some (mP (some a))] [] σ post := by
  iterate 2 (refine tr_mv rfl (fun _ => rfl) ?_)
  refine tr_at2 ha (m32_of (x := 0) ⟨by decide, by decide⟩) rfl rfl ?_
  iterate 2 (refine tr_mv rfl (fun _ => rfl) ?_)
  exact tr_ri rfl rfl K
theorem tlC.pk (hD : tlC t σ D) (hc : chg (pkR kb) (elC 120) σ σ') (ht : isT t) (hk : ¬ rT t kb) : tlC t σ' D := by
  have hq : ∀ o, 0 < o → o < 20 → σ'.1 (t + o) = σ.1 (t + o) := fun o h1 ho => hc.1 _ (fun g => by unfold isT at ht; omega)
  obtain ⟨h1, h2, h3, h4, h5, h6, h7⟩ := hD
  exact ⟨(hq 1 (by decide) (by decide)).trans h1, (hq 3 (by decide) (by decide)).trans h2, (hq 5 (by decide) (by decide)).trans h3, (hq 7 (by decide) (by decide)).trans h4, (hq 9 (by decide) (by decide)).trans h5, (hq 11 (by decide) (by decide)).trans h6, (hq 13 (by decide) (by decide)).trans h7⟩
/-- the Collator's own rows -/
abbrev colR (a : Nat) : Prop := 108 < a ∧ a < 140
abbrev colC (q i : Nat) : Prop := isEl q ∧ i = 5
theorem pk_col (hk : kb = 135 ∨ kb = 137) : ∀ a, pkR kb a → colR a := fun a ha => by omega
theorem pk_colC : ∀ q i, elC 120 q i → colC q i := fun q i h => ⟨h.1 ▸ el120, h.2⟩
theorem el_col (hu : isEl u) : ∀ a, elR u a → colR a := fun a ha => by unfold isEl at hu; omega
theorem el_colC (hu : isEl u) : ∀ q i, elC u q i → colC q i := fun q i h => ⟨h.1 ▸ hu, h.2⟩
theorem tlC.col (hD : tlC t σ D) (hc : chg colR colC σ σ') (ht : isT t) : tlC t σ' D := by
  have hq : ∀ o, 0 < o → o < 20 → σ'.1 (t + o) = σ.1 (t + o) := fun o h1 ho => hc.1 _ (fun g => by unfold isT at ht; omega)
  obtain ⟨h1, h2, h3, h4, h5, h6, h7⟩ := hD
  exact ⟨(hq 1 (by decide) (by decide)).trans h1, (hq 3 (by decide) (by decide)).trans h2, (hq 5 (by decide) (by decide)).trans h3, (hq 7 (by decide) (by decide)).trans h4, (hq 9 (by decide) (by decide)).trans h5, (hq 11 (by decide) (by decide)).trans h6, (hq 13 (by decide) (by decide)).trans h7⟩
theorem opC.col (hO : opC t σ o) (hc : chg colR colC σ σ') (ht : isT t) : opC t σ' o := fun j hj => by
  rw [hc.2 (t + 21) j (fun g => by unfold isT at ht; have := g.1; unfold isEl at this; omega)]
  exact hO j hj
theorem opC.pk (hO : opC t σ o) (hc : chg (pkR kb) (elC 120) σ σ') (ht : isT t) : opC t σ' o := fun j hj => by
  rw [hc.2 (t + 21) j (fun g => by unfold isT at ht; omega)]
  exact hO j hj
theorem kb135 (ht : isT t) : okKb t 135 := ⟨r_135, fun g => by unfold isT at ht; omega, Or.inl rfl⟩
theorem kb137 (ht : isT t) : okKb t 137 := ⟨r_137, fun g => by unfold isT at ht; omega, Or.inr (Or.inl rfl)⟩
theorem s_7 (ht : isT t) (hD2 : okTD D) (hD : tlC t σ D) (hO : opC t σ o) (hb : isRow b n) (hbs : sgRow b) (hs : σ.1 b = ss) (h40 : okA40 ss) (hls : ss.length ≤ 31) (hd : d ≤ 4) (hx : in32 x)
    (K : ∀ σ', chg colR colC σ σ' → post (.inl (some (mI (rget (keyOf D o d ss) x)))) σ') :
    Tr Ls N 7 0 [some (mP (some 108)), some (mP (some t)), some (mI (d : Int)), some (mP (some b)), some (mI x)] [] σ post := by
  repeat (first | refine tr_gr rfl ⟨by decide, rfl⟩ (by decide) rfl ?_ | refine tr_gi rfl (by decide) ⟨by decide, rfl⟩ (by decide) rfl rfl ?_ | refine tr_gr rfl (by assumption) (by decide) (by assumption) ?_ | refine tr_gi rfl (by decide) (by assumption) (by decide) (by assumption) (by assumption) ?_ | (refine tr_rem ?_ ?_ rfl ?_; omega; omega) | (refine tr_div ?_ ?_ rfl ?_; omega; omega) | refine tr_mv rfl (fun _ => rfl) ?_ | refine tr_ia2 (m32_of (by omega)) (by omega) rfl (fun _ => rfl) rfl (by decide) (by decide) (fun _ => rfl) ?_ | refine tr_size (by assumption) rfl rfl ?_ | refine tr_at2 (by assumption) (m32_of (by omega)) rfl rfl ?_)
  refine tr_vc (q := 108) rfl ⟨by decide, by decide +kernel⟩ rfl rfl rfl (s_2 ht hD2 hD hO hb hbs hs h40 hls hd (kb135 ht) (by omega) (fun σ1 g1 g2 => ?_))
  repeat (first | refine tr_gr rfl ⟨by decide, rfl⟩ (by decide) rfl ?_ | refine tr_gi rfl (by decide) ⟨by decide, rfl⟩ (by decide) rfl rfl ?_ | refine tr_gr rfl (by assumption) (by decide) (by assumption) ?_ | refine tr_gi rfl (by decide) (by assumption) (by decide) (by assumption) (by assumption) ?_ | (refine tr_rem ?_ ?_ rfl ?_; omega; omega) | (refine tr_div ?_ ?_ rfl ?_; omega; omega) | refine tr_mv rfl (fun _ => rfl) ?_ | refine tr_ia2 (m32_of (by omega)) (by omega) rfl (fun _ => rfl) rfl (by decide) (by decide) (fun _ => rfl) ?_ | refine tr_size (by assumption) rfl rfl ?_ | refine tr_at2 (by assumption) (m32_of (by omega)) rfl rfl ?_)
  refine tr_at2 r_135 (m32_of hx) rfl rfl ?_
  rw [g1]
  exact tr_ri rfl rfl (K σ1 (g2.wk (pk_col (Or.inl rfl)) pk_colC))
theorem s_8 (ht : isT t) (hD2 : okTD D) (hD : tlC t σ D) (hO : opC t σ o) (hb : isRow b n) (hbs : sgRow b) (hs : σ.1 b = ss) (h40 : okA40 ss) (hls : ss.length ≤ 31) (ha : isRow a n') (has : sgRow a) (hs2 : σ.1 a = ss2) (h402 : okA40 ss2) (hls2 : ss2.length ≤ 31) (hd : d ≤ 4)
    (K : ∀ σ', chg colR colC σ σ' → post (.inl (some (mI (cmpL (keyOf D o d ss) (keyOf D o d ss2))))) σ') :
    Tr Ls N 8 0 [some (mP (some 108)), some (mP (some t)), some (mI (d : Int)), some (mP (some b)), some (mP (some a))] [] σ post := by
  repeat (first | refine tr_gr rfl ⟨by decide, rfl⟩ (by decide) rfl ?_ | refine tr_gi rfl (by decide) ⟨by decide, rfl⟩ (by decide) rfl rfl ?_ | refine tr_gr rfl (by assumption) (by decide) (by assumption) ?_ | refine tr_gi rfl (by decide) (by assumption) (by decide) (by assumption) (by assumption) ?_ | (refine tr_rem ?_ ?_ rfl ?_; omega; omega) | (refine tr_div ?_ ?_ rfl ?_; omega; omega) | refine tr_mv rfl (fun _ => rfl) ?_ | refine tr_ia2 (m32_of (by omega)) (by omega) rfl (fun _ => rfl) rfl (by decide) (by decide) (fun _ => rfl) ?_ | refine tr_size (by assumption) rfl rfl ?_ | refine tr_at2 (by assumption) (m32_of (by omega)) rfl rfl ?_)
  refine tr_vc (q := 108) rfl ⟨by decide, by decide +kernel⟩ rfl rfl rfl (s_2 ht hD2 hD hO hb hbs hs h40 hls hd (kb135 ht) (by omega) (fun σ1 g1 g2 => ?_))
  repeat (first | refine tr_gr rfl ⟨by decide, rfl⟩ (by decide) rfl ?_ | refine tr_gi rfl (by decide) ⟨by decide, rfl⟩ (by decide) rfl rfl ?_ | refine tr_gr rfl (by assumption) (by decide) (by assumption) ?_ | refine tr_gi rfl (by decide) (by assumption) (by decide) (by assumption) (by assumption) ?_ | (refine tr_rem ?_ ?_ rfl ?_; omega; omega) | (refine tr_div ?_ ?_ rfl ?_; omega; omega) | refine tr_mv rfl (fun _ => rfl) ?_ | refine tr_ia2 (m32_of (by omega)) (by omega) rfl (fun _ => rfl) rfl (by decide) (by decide) (fun _ => rfl) ?_ | refine tr_size (by assumption) rfl rfl ?_ | refine tr_at2 (by assumption) (m32_of (by omega)) rfl rfl ?_)
  refine tr_vc (q := 108) rfl ⟨by decide, by decide +kernel⟩ rfl rfl rfl (s_2 ht hD2 (hD.pk g2 ht (kb135 ht).2.1) (hO.pk g2 ht) ha has ((g2.1 a (by omega)).trans hs2) h402 hls2 hd (kb137 ht) (by omega) (fun σ2 g3 g4 => ?_))
  repeat (first | refine tr_gr rfl ⟨by decide, rfl⟩ (by decide) rfl ?_ | refine tr_gi rfl (by decide) ⟨by decide, rfl⟩ (by decide) rfl rfl ?_ | refine tr_gr rfl (by assumption) (by decide) (by assumption) ?_ | refine tr_gi rfl (by decide) (by assumption) (by decide) (by assumption) (by assumption) ?_ | (refine tr_rem ?_ ?_ rfl ?_; omega; omega) | (refine tr_div ?_ ?_ rfl ?_; omega; omega) | refine tr_mv rfl (fun _ => rfl) ?_ | refine tr_ia2 (m32_of (by omega)) (by omega) rfl (fun _ => rfl) rfl (by decide) (by decide) (fun _ => rfl) ?_ | refine tr_size (by assumption) rfl rfl ?_ | refine tr_at2 (by assumption) (m32_of (by omega)) rfl rfl ?_)
  refine tr_stat rfl rfl rfl (s_192 r_135 r_137 ?_)
  rw [g3, g4.1 135 (by omega), g1]
  exact tr_ri rfl rfl (K σ2 ((g2.wk (pk_col (Or.inl rfl)) pk_colC).tr (g4.wk (pk_col (Or.inr rfl)) pk_colC)))
/-- the rows of the levels, one against the other -/
def cmpLv (sh bw : Int) (e1 e2 : List El) : Nat → Int → Int
  | 0, _ => 0
  | d + 1, lv => if cmpL (lvRow lv sh bw e1) (lvRow lv sh bw e2) ≠ 0 then cmpL (lvRow lv sh bw e1) (lvRow lv sh bw e2) else cmpLv sh bw e1 e2 d (lv + 1)
theorem cmpL_in : ∀ (xs ys : List Int), cmpL xs ys = -1 ∨ cmpL xs ys = 0 ∨ cmpL xs ys = 1
  | [], [] => Or.inr (Or.inl rfl)
  | [], _ :: _ => Or.inl rfl
  | _ :: _, [] => Or.inr (Or.inr rfl)
  | x :: xs, y :: ys => by
    unfold cmpL
    split
    · exact cmpL_in xs ys
    · split
      · exact Or.inl rfl
      · exact Or.inr (Or.inr rfl)
theorem s_9 (ht : isT t) (hD2 : okTD D) (hD : tlC t σ D) (hO : opC t σ o) (hb : isRow b n) (hbs : sgRow b) (hs : σ.1 b = ss) (h40 : okA40 ss) (hls : ss.length ≤ 31) (ha : isRow a n') (has : sgRow a) (hs2 : σ.1 a = ss2) (h402 : okA40 ss2) (hls2 : ss2.length ≤ 31) (hd : d ≤ 4)
    (K : ∀ σ', chg colR colC σ σ' → post (.inl (some (mI (cmpLv (o 0) (o 1) (gthR D (o 2) ss).1 (gthR D (o 2) ss2).1 d 1)))) σ') :
    Tr Ls N 9 0 [some (mP (some 108)), some (mP (some t)), some (mI (d : Int)), some (mP (some b)), some (mP (some a)), none, none] [] σ post := by
  have hl1 := gthR_len D (o 2) ss
  have hl2 := gthR_len D (o 2) ss2
  repeat (first | refine tr_gr rfl ⟨by decide, rfl⟩ (by decide) rfl ?_ | refine tr_gi rfl (by decide) ⟨by decide, rfl⟩ (by decide) rfl rfl ?_ | refine tr_gr rfl (by assumption) (by decide) (by assumption) ?_ | refine tr_gi rfl (by decide) (by assumption) (by decide) (by assumption) (by assumption) ?_ | (refine tr_rem ?_ ?_ rfl ?_; omega; omega) | (refine tr_div ?_ ?_ rfl ?_; omega; omega) | refine tr_mv rfl (fun _ => rfl) ?_ | refine tr_ia2 (m32_of (by omega)) (by omega) rfl (fun _ => rfl) rfl (by decide) (by decide) (fun _ => rfl) ?_ | refine tr_size (by assumption) rfl rfl ?_ | refine tr_at2 (by assumption) (m32_of (by omega)) rfl rfl ?_)
  refine tr_vc (q := 109) rfl (L_O el109) rfl rfl rfl (s_35 ht el109 hD2 hD hO hb (by omega) hs h40 hls (fun σ1 g1 g2 => ?_))
  have c1 := g2.wk (el_col el109) (el_colC el109)
  repeat (first | refine tr_gr rfl ⟨by decide, rfl⟩ (by decide) rfl ?_ | refine tr_gi rfl (by decide) ⟨by decide, rfl⟩ (by decide) rfl rfl ?_ | refine tr_gr rfl (by assumption) (by decide) (by assumption) ?_ | refine tr_gi rfl (by decide) (by assumption) (by decide) (by assumption) (by assumption) ?_ | (refine tr_rem ?_ ?_ rfl ?_; omega; omega) | (refine tr_div ?_ ?_ rfl ?_; omega; omega) | refine tr_mv rfl (fun _ => rfl) ?_ | refine tr_ia2 (m32_of (by omega)) (by omega) rfl (fun _ => rfl) rfl (by decide) (by decide) (fun _ => rfl) ?_ | refine tr_size (by assumption) rfl rfl ?_ | refine tr_at2 (by assumption) (m32_of (by omega)) rfl rfl ?_)
  refine tr_vc (q := 120) rfl (L_O el120) rfl rfl rfl (s_35 ht el120 hD2 (hD.col c1 ht) (hO.col c1 ht) ha (by omega) ((g2.1 a (by omega)).trans hs2) h402 hls2 (fun σ2 g3 g4 => ?_))
  have c2 := c1.tr (g4.wk (el_col el120) (el_colC el120))
  have g1' : elIs 109 σ2 (gthR D (o 2) ss).1 (gthR D (o 2) ss).2.1 (gthR D (o 2) ss).2.2 := by
    obtain ⟨k1, k2, k3, k4, k5, k6⟩ := g1
    exact ⟨(g4.1 _ (by omega)).trans k1, (g4.1 _ (by omega)).trans k2, (g4.1 _ (by omega)).trans k3, (g4.1 _ (by omega)).trans k4, (g4.1 _ (by omega)).trans k5, (g4.2 _ _ (by omega)).trans k6⟩
  generalize (gthR D (o 2) ss) = G1 at *
  generalize (gthR D (o 2) ss2) = G2 at *
  have hO2 := hO.col c2 ht
  iterate 4 (refine tr_mv rfl (fun _ => rfl) ?_)
  have loop : ∀ (dd : Nat) (lv rs : Int) (σ' : Sg), lv + dd = (d : Int) + 1 → 1 ≤ lv → (rs = -1 ∨ rs = 0 ∨ rs = 1) → elIs 109 σ' G1.1 G1.2.1 G1.2.2 → elIs 120 σ' G2.1 G2.2.1 G2.2.2 → opC t σ' o → chg colR colC σ σ' → (∀ σ', chg colR colC σ σ' → post (.inl (some (mI (if rs ≠ 0 then rs else cmpLv (o 0) (o 1) G1.1 G2.1 dd lv)))) σ') → Tr Ls N 9 25 [some (mP (some 108)), some (mP (some t)), some (mI (d : Int)), some (mP (some b)), some (mP (some a)), some (mI rs), some (mI lv)] [] σ' post := by
    intro dd
    induction dd with
    | zero =>
      intro lv rs σ' e1 e2 hrs hS1 hS2 hO' hc K'
      iterate 2 (refine tr_mv rfl (fun _ => rfl) ?_)
      refine tr_cmp2 rfl (m32_of (by omega)) (m32_of (by omega)) (fun _ => ?_) (fun c1 => absurd (show (d : Int) < lv by omega) c1)
      iterate 1 (refine tr_mv rfl (fun _ => rfl) ?_)
      refine tr_ri rfl ?_ (K' σ' hc)
      unfold cmpLv
      split
      · rfl
      · rename_i g; exact Decidable.byContradiction g
    | succ dd ih =>
      intro lv rs σ' e1 e2 hrs hS1 hS2 hO' hc K'
      iterate 2 (refine tr_mv rfl (fun _ => rfl) ?_)
      refine tr_cmp2 rfl (m32_of (by omega)) (m32_of (by omega)) (fun c1 => absurd c1 (by show ¬ _ < _; omega)) (fun _ => ?_)
      iterate 1 (refine tr_mv rfl (fun _ => rfl) ?_)
      refine tr_if2 rfl (m32_of (by omega)) (fun c1 => ?_) (fun c1 => ?_)
      · rw [if_pos c1] at K'
        iterate 1 (refine tr_mv rfl (fun _ => rfl) ?_)
        exact tr_ri rfl rfl (K' σ' hc)
      · have c1 : rs = 0 := Decidable.byContradiction c1
        subst c1
        rw [if_neg (fun g => g rfl)] at K'
        unfold cmpLv at K'
        repeat (first | refine tr_gr rfl ⟨by decide, rfl⟩ (by decide) rfl ?_ | refine tr_gi rfl (by decide) ⟨by decide, rfl⟩ (by decide) rfl rfl ?_ | refine tr_gr rfl (by assumption) (by decide) (by assumption) ?_ | refine tr_gi rfl (by decide) (by assumption) (by decide) (by assumption) (by assumption) ?_ | (refine tr_rem ?_ ?_ rfl ?_; omega; omega) | (refine tr_div ?_ ?_ rfl ?_; omega; omega) | refine tr_mv rfl (fun _ => rfl) ?_ | refine tr_ia2 (m32_of (by omega)) (by omega) rfl (fun _ => rfl) rfl (by decide) (by decide) (fun _ => rfl) ?_ | refine tr_size (by assumption) rfl rfl ?_ | refine tr_at2 (by assumption) (m32_of (by omega)) rfl rfl ?_)
        refine tr_vc (q := 109) rfl (L_O el109) rfl rfl rfl (s_45 ht el109 hO' hS1 r_131 (by omega) (by omega) (by decide) (by omega) ?_)
        repeat (first | refine tr_gr rfl ⟨by decide, rfl⟩ (by decide) rfl ?_ | refine tr_gi rfl (by decide) ⟨by decide, rfl⟩ (by decide) rfl rfl ?_ | refine tr_gr rfl (by assumption) (by decide) (by assumption) ?_ | refine tr_gi rfl (by decide) (by assumption) (by decide) (by assumption) (by assumption) ?_ | (refine tr_rem ?_ ?_ rfl ?_; omega; omega) | (refine tr_div ?_ ?_ rfl ?_; omega; omega) | refine tr_mv rfl (fun _ => rfl) ?_ | refine tr_ia2 (m32_of (by omega)) (by omega) rfl (fun _ => rfl) rfl (by decide) (by decide) (fun _ => rfl) ?_ | refine tr_size (by assumption) rfl rfl ?_ | refine tr_at2 (by assumption) (m32_of (by omega)) rfl rfl ?_)
        refine tr_vc (q := 120) rfl (L_O el120) rfl rfl rfl (s_45 ht el120 (show opC t (setR σ' 131 _) o from hO') (elIs_setR el120 hS2 (by omega)) r_133 (by omega) (by omega) (by decide) (by omega) ?_)
        repeat (first | refine tr_gr rfl ⟨by decide, rfl⟩ (by decide) rfl ?_ | refine tr_gi rfl (by decide) ⟨by decide, rfl⟩ (by decide) rfl rfl ?_ | refine tr_gr rfl (by assumption) (by decide) (by assumption) ?_ | refine tr_gi rfl (by decide) (by assumption) (by decide) (by assumption) (by assumption) ?_ | (refine tr_rem ?_ ?_ rfl ?_; omega; omega) | (refine tr_div ?_ ?_ rfl ?_; omega; omega) | refine tr_mv rfl (fun _ => rfl) ?_ | refine tr_ia2 (m32_of (by omega)) (by omega) rfl (fun _ => rfl) rfl (by decide) (by decide) (fun _ => rfl) ?_ | refine tr_size (by assumption) rfl rfl ?_ | refine tr_at2 (by assumption) (m32_of (by omega)) rfl rfl ?_)
        refine tr_stat rfl rfl rfl (s_192 r_131 r_133 ?_)
        rw [setR_same, setR_ne _ _ (by decide), setR_same]
        iterate 3 (refine tr_mv rfl (fun _ => rfl) ?_)
        refine ih (lv + 1) _ _ (by omega) (by omega) (cmpL_in _ _) (elIs_setR el109 (elIs_setR el109 hS1 (by omega)) (by omega)) (elIs_setR el120 (elIs_setR el120 hS2 (by omega)) (by omega)) hO' ((hc.setR (by omega)).setR (by omega)) K'
  exact loop d 1 0 σ2 (by omega) (by omega) (Or.inr (Or.inl rfl)) g1' g3 hO2 c2 (fun σ' k => by rw [if_neg (fun g => g rfl)]; exact K σ' k)
end PUTKEY
