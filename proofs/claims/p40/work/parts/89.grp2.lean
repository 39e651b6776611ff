/-! Groups of locators: the class's, joined. -/
theorem jn1_pos {g : Gp} {gs : List Gp} (c : 4 ≤ cntP (g.2.1 + 9) (g :: gs)) : jn1 (g :: gs) = (3, g.2.1, ((g :: gs).getD (cntP (g.2.1 + 9) (g :: gs) - 1) (0, 0, 0)).2.2) :: gs.drop (cntP (g.2.1 + 9) (g :: gs) - 1) := if_pos c
theorem jn1_neg {g : Gp} {gs : List Gp} (c : ¬ 4 ≤ cntP (g.2.1 + 9) (g :: gs)) : jn1 (g :: gs) = g :: gs := if_neg c
/-- groups as told -/
abbrev okGp (g : Gp) : Prop := (0 ≤ g.1 ∧ g.1 ≤ 3) ∧ (0 ≤ g.2.1 ∧ g.2.1 ≤ 999) ∧ (0 ≤ g.2.2 ∧ g.2.2 ≤ 999)
theorem addR_ok {rg : List Gp} {c : Int} (hc : okLc c) (h : ∀ g ∈ rg, okGp g) : ∀ g ∈ addR rg c, okGp g := by
  have hk := rk_in (x := c / 1000) (by omega)
  intro g hg
  unfold addR at hg
  split at hg
  · rw [List.mem_singleton.mp hg]
    exact ⟨by show 0 ≤ rk _ ∧ rk _ ≤ 3; omega, by show 0 ≤ c % 1000 ∧ c % 1000 ≤ 999; omega, by show 0 ≤ c % 1000 ∧ c % 1000 ≤ 999; omega⟩
  · rename_i s f l r
    split at hg
    · rcases List.mem_cons.mp hg with k | k
      · have h0 := h (s, f, l) List.mem_cons_self
        rw [k]
        exact ⟨h0.1, h0.2.1, by show 0 ≤ c % 1000 ∧ c % 1000 ≤ 999; omega⟩
      · exact h g (List.mem_cons_of_mem _ k)
    · rcases List.mem_cons.mp hg with k | k
      · rw [k]
        exact ⟨by show 0 ≤ rk _ ∧ rk _ ≤ 3; omega, by show 0 ≤ c % 1000 ∧ c % 1000 ≤ 999; omega, by show 0 ≤ c % 1000 ∧ c % 1000 ≤ 999; omega⟩
      · exact h g k
theorem addRs_ok : ∀ {L : List Int} {rg : List Gp}, (∀ c ∈ L, okLc c) → (∀ g ∈ rg, okGp g) → ∀ g ∈ L.foldl addR rg, okGp g
  | [], _, _, h => h
  | c :: L, rg, hL, h => addRs_ok (L := L) (fun x hx => hL x (List.mem_cons_of_mem _ hx)) (addR_ok (hL c List.mem_cons_self) h)
theorem gget {l : List Gp} {i : Nat} (hi : i < l.length) : l.getD i (0, 0, 0) ∈ l := by
  rw [List.getD_eq_getElem?_getD, List.getElem?_eq_getElem hi]
  exact List.getElem_mem _
theorem jn1_ok : ∀ {l : List Gp}, (∀ g ∈ l, okGp g) → ∀ g ∈ jn1 l, okGp g
  | [], _, g, hg => by simp [jn1] at hg
  | a :: l, h, g, hg => by
    have hle := cntP_le (a.2.1 + 9) (a :: l)
    by_cases c : 4 ≤ cntP (a.2.1 + 9) (a :: l)
    · rw [jn1_pos c] at hg
      rcases List.mem_cons.mp hg with k | k
      · have h0 := h a List.mem_cons_self
        have h1 := h _ (gget (l := a :: l) (i := cntP (a.2.1 + 9) (a :: l) - 1) (by omega))
        rw [k]
        exact ⟨show (0 : Int) ≤ 3 ∧ (3 : Int) ≤ 3 by decide, h0.2.1, h1.2.2⟩
      · exact h g (List.mem_cons_of_mem _ (List.mem_of_mem_drop k))
    · rw [jn1_neg c] at hg
      exact h g hg
section GRP2
variable {Ls N k pc n n' nn b c t a q kd w d p X T : Nat} {L L0 : mLs} {st r as : List mV} {h h' : mH} {σ σ' σ'' : Sg} {post : tP} {x y z x' y' i i' s v m u lv : Int} {xs ys ss : List Int} {e : mE} {C : Nat → Nat → Prop} {R : Nat → Prop} {gs rg : List Gp}
theorem gp_get {f : Gp → Int} {pre suf : List Gp} {j : Nat} (hj : j < suf.length) : rget ((pre ++ suf).map f) ((pre.length + j : Nat) : Int) = f (suf.getD j (0, 0, 0)) := by
  rw [rget_nat (by simp; omega), List.getD_eq_getElem?_getD, List.getElem?_map, List.getElem?_append_right (by omega), show pre.length + j - pre.length = j by omega, List.getD_eq_getElem?_getD, List.getElem?_eq_getElem hj]
  rfl
theorem gp_era {f : Gp → Int} {pre suf : List Gp} {g : Gp} : rrem ((pre ++ g :: suf).map f) (pre.length : Int) = (pre ++ suf).map f := by
  rw [rrem_nat (by simp)]
  rw [show (pre ++ g :: suf).map f = pre.map f ++ f g :: suf.map f by simp, show pre.length = (pre.map f).length + 0 by simp, List.eraseIdx_append_of_length_le (by simp)]
  simp
theorem gp_set {f : Gp → Int} {pre suf : List Gp} {g : Gp} : rset ((pre ++ g :: suf).map f) (pre.length : Int) v = pre.map f ++ v :: suf.map f := by
  rw [show (pre ++ g :: suf).map f = pre.map f ++ f g :: suf.map f by simp]
  exact rset_mid (by simp)
theorem s_76 {pre : List Gp} {g : Gp} {suf : List Gp} (hG : gpIs σ (pre ++ g :: suf)) (hok : ∀ x ∈ pre ++ g :: suf, okGp x) (hl : pre.length + suf.length < 10) (K : ∀ σ', gpIs σ' (pre ++ jn1 (g :: suf)) → chg gpR noC σ σ' → post (.inl none) σ') : Tr Ls N 76 0 [some (mP (some 146)), some (mI (pre.length : Int)), none, none] [] σ post := by
  obtain ⟨g1, g2, g3⟩ := hG
  have hokg := hok g (by simp)
  have hgl : ∀ f : Gp → Int, ((pre ++ g :: suf).map f).length = pre.length + 1 + suf.length := fun f => by simp; omega
  have hok2 : ∀ j, j < (g :: suf).length → okGp ((g :: suf).getD j (0, 0, 0)) := fun j hj => hok _ (List.mem_append.mpr (Or.inr (gget hj)))
  have h0 : ∀ f : Gp → Int, rget ((pre ++ g :: suf).map f) (pre.length : Int) = f g := fun f => gp_get (j := 0) (by simp)
  have hcl := cntP_le (g.2.1 + 9) (g :: suf)
  have hsl : (g :: suf).length = suf.length + 1 := rfl
  -- behind the count
  have h52 : ∀ c, c = cntP (g.2.1 + 9) (g :: suf) → Tr Ls N 76 52 [some (mP (some 146)), some (mI (pre.length : Int)), some (mI ((pre.length + c : Nat) : Int)), none] [] σ post := by
    intro c ec
    iterate 4 (refine tr_mv rfl (fun _ => rfl) ?_)
    by_cases c4 : 4 ≤ c
    · rw [jn1_pos (by omega), ← ec] at K
      refine tr_cmp2 rfl (m32_of (by omega)) (m32_of (x := 4) ⟨by decide, by decide⟩) (fun _ => ?_) (fun c9 => absurd (show (4 : Int) ≤ ((pre.length + c : Nat) : Int) - (pre.length : Int) by omega) c9)
      repeat (first | refine tr_gr rfl ⟨by decide, rfl⟩ (by decide) rfl ?_ | refine tr_gi rfl (by decide) ⟨by decide, rfl⟩ (by decide) rfl rfl ?_ | refine tr_gr rfl (by assumption) (by decide) (by assumption) ?_ | refine tr_gi rfl (by decide) (by assumption) (by decide) (by assumption) (by assumption) ?_ | (refine tr_rem ?_ ?_ rfl ?_; omega; omega) | (refine tr_div ?_ ?_ rfl ?_; omega; omega) | refine tr_mv rfl (fun _ => rfl) ?_ | refine tr_ia2 (m32_of (by omega)) (by omega) rfl (fun _ => rfl) rfl (by decide) (by decide) (fun _ => rfl) ?_ | refine tr_size (by assumption) rfl rfl ?_ | refine tr_at2 (by assumption) (m32_of (by omega)) rfl rfl ?_)
      refine tr_set2 r_147 (m32_of (by omega)) (by omega) rfl rfl ?_
      rw [g1, gp_set]
      repeat (first | refine tr_gr rfl ⟨by decide, rfl⟩ (by decide) rfl ?_ | refine tr_gi rfl (by decide) ⟨by decide, rfl⟩ (by decide) rfl rfl ?_ | refine tr_gr rfl (by assumption) (by decide) (by assumption) ?_ | refine tr_gi rfl (by decide) (by assumption) (by decide) (by assumption) (by assumption) ?_ | (refine tr_rem ?_ ?_ rfl ?_; omega; omega) | (refine tr_div ?_ ?_ rfl ?_; omega; omega) | refine tr_mv rfl (fun _ => rfl) ?_ | refine tr_ia2 (m32_of (by omega)) (by omega) rfl (fun _ => rfl) rfl (by decide) (by decide) (fun _ => rfl) ?_ | refine tr_size (by assumption) rfl rfl ?_ | refine tr_at2 (by assumption) (m32_of (by omega)) rfl rfl ?_)
      refine tr_at2 r_151 (m32_of (by omega)) rfl rfl ?_
      rw [setR_ne _ _ (by decide), g3, show ((pre.length + c : Nat) : Int) - 1 = ((pre.length + (c - 1) : Nat) : Int) by omega, gp_get (by omega)]
      have hlast := hok2 (c - 1) (by omega)
      refine tr_set2 r_151 (m32_of (by omega)) (by omega) rfl rfl ?_
      rw [setR_ne _ _ (by decide), g3, gp_set]
      iterate 4 (refine tr_mv rfl (fun _ => rfl) ?_)
      rw [show ((pre.length + c : Nat) : Int) - 1 = ((pre.length + (c - 1) : Nat) : Int) by omega]
      generalize ((g :: suf).getD (c - 1) (0, 0, 0)).2.2 = LL at *
      -- what is gone
      have loop : ∀ (j : Nat) (σ' : Sg), j < c → gpIs σ' (pre ++ ((3, g.2.1, LL) :: (suf.take j ++ suf.drop (c - 1)))) → chg gpR noC σ σ' → Tr Ls N 76 91 [some (mP (some 146)), some (mI (pre.length : Int)), some (mI ((pre.length + c : Nat) : Int)), some (mI ((pre.length + j : Nat) : Int))] [] σ' post := by
        intro j
        induction j with
        | zero =>
          intro σ' hj hG' hc'
          iterate 2 (refine tr_mv rfl (fun _ => rfl) ?_)
          refine tr_cmp2 rfl (m32_of (by omega)) (m32_of (by omega)) (fun _ => ?_) (fun c9 => absurd (show ((pre.length + 0 : Nat) : Int) ≤ (pre.length : Int) by omega) c9)
          exact tr_ret rfl (fun _ => rfl) (K σ' (by simpa using hG') hc')
        | succ j ih =>
          intro σ' hj hG' hc'
          obtain ⟨q1, q2, q3⟩ := hG'
          have hsp : ∃ y, suf.take (j + 1) = suf.take j ++ [y] := ⟨suf.getD j (0, 0, 0), by
            rw [List.take_add_one, List.getD_eq_getElem?_getD, List.getElem?_eq_getElem (show j < suf.length by omega)]
            rfl⟩
          obtain ⟨y, hy⟩ := hsp
          have hre : pre ++ ((3, g.2.1, LL) :: (suf.take (j + 1) ++ suf.drop (c - 1))) = (pre ++ ((3, g.2.1, LL) :: suf.take j)) ++ y :: suf.drop (c - 1) := by rw [hy]; simp
          rw [hre] at q1 q2 q3
          have hpl : ((pre.length + (j + 1) : Nat) : Int) = (((pre ++ ((3, g.2.1, LL) :: suf.take j)).length : Nat) : Int) := by
            simp
            omega
          iterate 2 (refine tr_mv rfl (fun _ => rfl) ?_)
          refine tr_cmp2 rfl (m32_of (by omega)) (m32_of (by omega)) (fun c9 => absurd c9 (by show ¬ _ ≤ _; omega)) (fun _ => ?_)
          repeat (first | refine tr_gr rfl ⟨by decide, rfl⟩ (by decide) rfl ?_ | refine tr_gi rfl (by decide) ⟨by decide, rfl⟩ (by decide) rfl rfl ?_ | refine tr_gr rfl (by assumption) (by decide) (by assumption) ?_ | refine tr_gi rfl (by decide) (by assumption) (by decide) (by assumption) (by assumption) ?_ | (refine tr_rem ?_ ?_ rfl ?_; omega; omega) | (refine tr_div ?_ ?_ rfl ?_; omega; omega) | refine tr_mv rfl (fun _ => rfl) ?_ | refine tr_ia2 (m32_of (by omega)) (by omega) rfl (fun _ => rfl) rfl (by decide) (by decide) (fun _ => rfl) ?_ | refine tr_size (by assumption) rfl rfl ?_ | refine tr_at2 (by assumption) (m32_of (by omega)) rfl rfl ?_)
          refine tr_removeAt r_147 (by omega) rfl rfl ?_
          rw [q1, hpl, gp_era]
          repeat (first | refine tr_gr rfl ⟨by decide, rfl⟩ (by decide) rfl ?_ | refine tr_gi rfl (by decide) ⟨by decide, rfl⟩ (by decide) rfl rfl ?_ | refine tr_gr rfl (by assumption) (by decide) (by assumption) ?_ | refine tr_gi rfl (by decide) (by assumption) (by decide) (by assumption) (by assumption) ?_ | (refine tr_rem ?_ ?_ rfl ?_; omega; omega) | (refine tr_div ?_ ?_ rfl ?_; omega; omega) | refine tr_mv rfl (fun _ => rfl) ?_ | refine tr_ia2 (m32_of (by omega)) (by omega) rfl (fun _ => rfl) rfl (by decide) (by decide) (fun _ => rfl) ?_ | refine tr_size (by assumption) rfl rfl ?_ | refine tr_at2 (by assumption) (m32_of (by omega)) rfl rfl ?_)
          refine tr_removeAt r_149 (by omega) rfl rfl ?_
          rw [setR_ne _ _ (by decide), q2, gp_era]
          repeat (first | refine tr_gr rfl ⟨by decide, rfl⟩ (by decide) rfl ?_ | refine tr_gi rfl (by decide) ⟨by decide, rfl⟩ (by decide) rfl rfl ?_ | refine tr_gr rfl (by assumption) (by decide) (by assumption) ?_ | refine tr_gi rfl (by decide) (by assumption) (by decide) (by assumption) (by assumption) ?_ | (refine tr_rem ?_ ?_ rfl ?_; omega; omega) | (refine tr_div ?_ ?_ rfl ?_; omega; omega) | refine tr_mv rfl (fun _ => rfl) ?_ | refine tr_ia2 (m32_of (by omega)) (by omega) rfl (fun _ => rfl) rfl (by decide) (by decide) (fun _ => rfl) ?_ | refine tr_size (by assumption) rfl rfl ?_ | refine tr_at2 (by assumption) (m32_of (by omega)) rfl rfl ?_)
          refine tr_removeAt r_151 (by omega) rfl rfl ?_
          rw [setR_ne _ _ (by decide), setR_ne _ _ (by decide), q3, gp_era, ← hpl]
          iterate 2 (refine tr_mv rfl (fun _ => rfl) ?_)
          show Tr Ls N 76 91 [some (mP (some 146)), some (mI (pre.length : Int)), some (mI ((pre.length + c : Nat) : Int)), some (mI (((pre.length + (j + 1) : Nat) : Int) + -1))] [] _ post
          rw [show ((pre.length + (j + 1) : Nat) : Int) + -1 = ((pre.length + j : Nat) : Int) by omega]
          refine ih _ (by omega) ⟨?_, ?_, ?_⟩ (((hc'.setR (Or.inl rfl)).setR (Or.inr (Or.inl rfl))).setR (Or.inr (Or.inr rfl)))
          · rw [setR_ne _ _ (by decide), setR_ne _ _ (by decide), setR_same]
            simp
          · rw [setR_ne _ _ (by decide), setR_same]
            simp
          · rw [setR_same]
            simp
      refine loop (c - 1) _ (by omega) ⟨?_, ?_, ?_⟩ ((chg.rf.setR (Or.inl rfl)).setR (Or.inr (Or.inr rfl)))
      · rw [setR_ne _ _ (by decide), setR_same, List.take_append_drop]
        simp
      · rw [setR_ne _ _ (by decide), setR_ne _ _ (by decide), g2, List.take_append_drop]
        simp
      · rw [setR_same, List.take_append_drop]
        simp
    · rw [jn1_neg (by omega)] at K
      refine tr_cmp2 rfl (m32_of (by omega)) (m32_of (x := 4) ⟨by decide, by decide⟩) (fun c9 => absurd c9 (by show ¬ (4 : Int) ≤ _; omega)) (fun _ => ?_)
      exact tr_ret rfl (fun _ => rfl) (K σ ⟨g1, g2, g3⟩ chg.rf)
  have loop : ∀ (rest done : List Gp), g :: suf = done ++ rest → cntP (g.2.1 + 9) (g :: suf) = done.length + cntP (g.2.1 + 9) rest → Tr Ls N 76 2 [some (mP (some 146)), some (mI (pre.length : Int)), some (mI ((pre.length + done.length : Nat) : Int)), none] [] σ post := by
    intro rest
    induction rest with
    | nil =>
      intro done e hc
      have hlen := congrArg List.length e
      simp only [List.length_append, List.length_nil, Nat.add_zero] at hlen
      repeat (first | refine tr_gr rfl ⟨by decide, rfl⟩ (by decide) rfl ?_ | refine tr_gi rfl (by decide) ⟨by decide, rfl⟩ (by decide) rfl rfl ?_ | refine tr_gr rfl (by assumption) (by decide) (by assumption) ?_ | refine tr_gi rfl (by decide) (by assumption) (by decide) (by assumption) (by assumption) ?_ | (refine tr_rem ?_ ?_ rfl ?_; omega; omega) | (refine tr_div ?_ ?_ rfl ?_; omega; omega) | refine tr_mv rfl (fun _ => rfl) ?_ | refine tr_ia2 (m32_of (by omega)) (by omega) rfl (fun _ => rfl) rfl (by decide) (by decide) (fun _ => rfl) ?_ | refine tr_size (by assumption) rfl rfl ?_ | refine tr_at2 (by assumption) (m32_of (by omega)) rfl rfl ?_)
      refine tr_size r_147 rfl rfl ?_
      rw [g1, hgl]
      refine tr_cmp2 rfl (m32_of (by omega)) (m32_of (by omega)) (fun _ => ?_) (fun c9 => absurd (show ((pre.length + 1 + suf.length : Nat) : Int) ≤ ((pre.length + done.length : Nat) : Int) by omega) c9)
      exact h52 _ (by rw [hc]; rfl)
    | cons y rest ih =>
      intro done e hc
      have hlen := congrArg List.length e
      have hlen2 : suf.length + 1 = done.length + 1 + rest.length := by
        rw [hsl] at hlen
        simp at hlen
        omega
      have hyy : (g :: suf).getD done.length (0, 0, 0) = y := by
        rw [e, List.getD_eq_getElem?_getD]
        simp
      have hoky := hok2 done.length (by omega)
      rw [hyy] at hoky
      rw [show cntP (g.2.1 + 9) (y :: rest) = if y.1 = 0 ∧ y.2.1 ≤ g.2.1 + 9 then cntP (g.2.1 + 9) rest + 1 else 0 from rfl] at hc
      have hq : ∀ f : Gp → Int, rget ((pre ++ g :: suf).map f) ((pre.length + done.length : Nat) : Int) = f y := fun f => by rw [gp_get (by omega), hyy]
      repeat (first | refine tr_gr rfl ⟨by decide, rfl⟩ (by decide) rfl ?_ | refine tr_gi rfl (by decide) ⟨by decide, rfl⟩ (by decide) rfl rfl ?_ | refine tr_gr rfl (by assumption) (by decide) (by assumption) ?_ | refine tr_gi rfl (by decide) (by assumption) (by decide) (by assumption) (by assumption) ?_ | (refine tr_rem ?_ ?_ rfl ?_; omega; omega) | (refine tr_div ?_ ?_ rfl ?_; omega; omega) | refine tr_mv rfl (fun _ => rfl) ?_ | refine tr_ia2 (m32_of (by omega)) (by omega) rfl (fun _ => rfl) rfl (by decide) (by decide) (fun _ => rfl) ?_ | refine tr_size (by assumption) rfl rfl ?_ | refine tr_at2 (by assumption) (m32_of (by omega)) rfl rfl ?_)
      refine tr_size r_147 rfl rfl ?_
      rw [g1, hgl]
      refine tr_cmp2 rfl (m32_of (by omega)) (m32_of (by omega)) (fun c9 => absurd c9 (by show ¬ _ ≤ _; omega)) (fun _ => ?_)
      repeat (first | refine tr_gr rfl ⟨by decide, rfl⟩ (by decide) rfl ?_ | refine tr_gi rfl (by decide) ⟨by decide, rfl⟩ (by decide) rfl rfl ?_ | refine tr_gr rfl (by assumption) (by decide) (by assumption) ?_ | refine tr_gi rfl (by decide) (by assumption) (by decide) (by assumption) (by assumption) ?_ | (refine tr_rem ?_ ?_ rfl ?_; omega; omega) | (refine tr_div ?_ ?_ rfl ?_; omega; omega) | refine tr_mv rfl (fun _ => rfl) ?_ | refine tr_ia2 (m32_of (by omega)) (by omega) rfl (fun _ => rfl) rfl (by decide) (by decide) (fun _ => rfl) ?_ | refine tr_size (by assumption) rfl rfl ?_ | refine tr_at2 (by assumption) (m32_of (by omega)) rfl rfl ?_)
      refine tr_at2 r_147 (m32_of (by omega)) rfl rfl ?_
      rw [g1, hq]
      refine tr_if2 rfl (m32_of (by omega)) (fun c1 => ?_) (fun c1 => ?_)
      · rw [if_neg (fun g => c1 g.1)] at hc
        exact h52 _ (by omega)
      · repeat (first | refine tr_gr rfl ⟨by decide, rfl⟩ (by decide) rfl ?_ | refine tr_gi rfl (by decide) ⟨by decide, rfl⟩ (by decide) rfl rfl ?_ | refine tr_gr rfl (by assumption) (by decide) (by assumption) ?_ | refine tr_gi rfl (by decide) (by assumption) (by decide) (by assumption) (by assumption) ?_ | (refine tr_rem ?_ ?_ rfl ?_; omega; omega) | (refine tr_div ?_ ?_ rfl ?_; omega; omega) | refine tr_mv rfl (fun _ => rfl) ?_ | refine tr_ia2 (m32_of (by omega)) (by omega) rfl (fun _ => rfl) rfl (by decide) (by decide) (fun _ => rfl) ?_ | refine tr_size (by assumption) rfl rfl ?_ | refine tr_at2 (by assumption) (m32_of (by omega)) rfl rfl ?_)
        refine tr_at2 r_149 (m32_of (by omega)) rfl rfl ?_
        rw [g2, hq]
        repeat (first | refine tr_gr rfl ⟨by decide, rfl⟩ (by decide) rfl ?_ | refine tr_gi rfl (by decide) ⟨by decide, rfl⟩ (by decide) rfl rfl ?_ | refine tr_gr rfl (by assumption) (by decide) (by assumption) ?_ | refine tr_gi rfl (by decide) (by assumption) (by decide) (by assumption) (by assumption) ?_ | (refine tr_rem ?_ ?_ rfl ?_; omega; omega) | (refine tr_div ?_ ?_ rfl ?_; omega; omega) | refine tr_mv rfl (fun _ => rfl) ?_ | refine tr_ia2 (m32_of (by omega)) (by omega) rfl (fun _ => rfl) rfl (by decide) (by decide) (fun _ => rfl) ?_ | refine tr_size (by assumption) rfl rfl ?_ | refine tr_at2 (by assumption) (m32_of (by omega)) rfl rfl ?_)
        refine tr_at2 r_149 (m32_of (by omega)) rfl rfl ?_
        rw [g2, h0]
        iterate 2 (refine tr_mv rfl (fun _ => rfl) ?_)
        refine tr_cmp2 rfl (m32_of (by omega)) (m32_of (by omega)) (fun c2 => ?_) (fun c2 => ?_)
        · rw [if_neg (fun g => by omega)] at hc
          exact h52 _ (by omega)
        · rw [if_pos ⟨by omega, by omega⟩] at hc
          iterate 2 (refine tr_mv rfl (fun _ => rfl) ?_)
          show Tr Ls N 76 2 [some (mP (some 146)), some (mI (pre.length : Int)), some (mI (((pre.length + done.length : Nat) : Int) + 1)), none] [] σ post
          rw [show ((pre.length + done.length : Nat) : Int) + 1 = ((pre.length + (done ++ [y]).length : Nat) : Int) by simp; omega]
          exact ih (done ++ [y]) (by rw [e]; simp) (by rw [hc]; simp; omega)
  iterate 2 (refine tr_mv rfl (fun _ => rfl) ?_)
  exact loop (g :: suf) [] rfl (by simp)
theorem jnA_cons {d : Nat} {l : List Gp} {g : Gp} {gs : List Gp} (e : jn1 l = g :: gs) : jnA (d + 1) l = g :: jnA d gs := by
  show (match jn1 l with
    | [] => []
    | g :: gs => g :: jnA d gs) = _
  rw [e]
theorem jnA_nil : ∀ (d : Nat), jnA d [] = []
  | 0 => rfl
  | d + 1 => rfl
theorem s_74 (hb : isRow b n) (hbg : ¬ gpR b) {Lc : List Int} (hs : σ.1 b = Lc) (hok : ∀ c ∈ Lc, okLc c) (hl : Lc.length ≤ 10) (K : ∀ σ', gpIs σ' (grpL Lc) → chg gpR noC σ σ' → post (.inl none) σ') : Tr Ls N 74 0 [some (mP (some 146)), some (mP (some b)), none] [] σ post := by
  have hb0 : ∀ σ', chg gpR noC σ σ' → σ'.1 b = Lc := fun σ' h => (h.1 b hbg).trans hs
  have hfl := addRs_len Lc []
  have hfok := addRs_ok (L := Lc) (rg := []) hok (fun g hg => absurd hg List.not_mem_nil)
  unfold grpL at K
  -- the second loop
  have L2 : ∀ (d : Nat) (done suf : List Gp) (σ' : Sg), suf.length ≤ d → done.length + suf.length ≤ 10 → (∀ g ∈ done ++ suf, okGp g) → gpIs σ' (done ++ suf) → chg gpR noC σ σ' → (∀ σ', gpIs σ' (done ++ jnA d suf) → chg gpR noC σ σ' → post (.inl none) σ') → Tr Ls N 74 59 [some (mP (some 146)), some (mP (some b)), some (mI (done.length : Int))] [] σ' post := by
    intro d
    induction d with
    | zero =>
      intro done suf σ' h1 h2 hk hG hc K'
      have e : suf = [] := List.length_eq_zero_iff.mp (by omega)
      subst e
      repeat (first | refine tr_gr rfl ⟨by decide, rfl⟩ (by decide) rfl ?_ | refine tr_gi rfl (by decide) ⟨by decide, rfl⟩ (by decide) rfl rfl ?_ | refine tr_gr rfl (by assumption) (by decide) (by assumption) ?_ | refine tr_gi rfl (by decide) (by assumption) (by decide) (by assumption) (by assumption) ?_ | (refine tr_rem ?_ ?_ rfl ?_; omega; omega) | (refine tr_div ?_ ?_ rfl ?_; omega; omega) | refine tr_mv rfl (fun _ => rfl) ?_ | refine tr_ia2 (m32_of (by omega)) (by omega) rfl (fun _ => rfl) rfl (by decide) (by decide) (fun _ => rfl) ?_ | refine tr_size (by assumption) rfl rfl ?_ | refine tr_at2 (by assumption) (m32_of (by omega)) rfl rfl ?_)
      refine tr_size r_147 rfl rfl ?_
      rw [hG.1, List.append_nil, List.length_map]
      refine tr_cmp2 rfl (m32_of (by omega)) (m32_of (by omega)) (fun _ => ?_) (fun c9 => absurd (Int.le_refl _) c9)
      exact tr_ret rfl (fun _ => rfl) (K' σ' hG hc)
    | succ d ih =>
      intro done suf σ' h1 h2 hk hG hc K'
      cases suf with
      | nil =>
        rw [jnA_nil] at K'
        repeat (first | refine tr_gr rfl ⟨by decide, rfl⟩ (by decide) rfl ?_ | refine tr_gi rfl (by decide) ⟨by decide, rfl⟩ (by decide) rfl rfl ?_ | refine tr_gr rfl (by assumption) (by decide) (by assumption) ?_ | refine tr_gi rfl (by decide) (by assumption) (by decide) (by assumption) (by assumption) ?_ | (refine tr_rem ?_ ?_ rfl ?_; omega; omega) | (refine tr_div ?_ ?_ rfl ?_; omega; omega) | refine tr_mv rfl (fun _ => rfl) ?_ | refine tr_ia2 (m32_of (by omega)) (by omega) rfl (fun _ => rfl) rfl (by decide) (by decide) (fun _ => rfl) ?_ | refine tr_size (by assumption) rfl rfl ?_ | refine tr_at2 (by assumption) (m32_of (by omega)) rfl rfl ?_)
        refine tr_size r_147 rfl rfl ?_
        rw [hG.1, List.append_nil, List.length_map]
        refine tr_cmp2 rfl (m32_of (by omega)) (m32_of (by omega)) (fun _ => ?_) (fun c9 => absurd (Int.le_refl _) c9)
        exact tr_ret rfl (fun _ => rfl) (K' σ' hG hc)
      | cons g suf =>
        have hsl : (g :: suf).length = suf.length + 1 := rfl
        repeat (first | refine tr_gr rfl ⟨by decide, rfl⟩ (by decide) rfl ?_ | refine tr_gi rfl (by decide) ⟨by decide, rfl⟩ (by decide) rfl rfl ?_ | refine tr_gr rfl (by assumption) (by decide) (by assumption) ?_ | refine tr_gi rfl (by decide) (by assumption) (by decide) (by assumption) (by assumption) ?_ | (refine tr_rem ?_ ?_ rfl ?_; omega; omega) | (refine tr_div ?_ ?_ rfl ?_; omega; omega) | refine tr_mv rfl (fun _ => rfl) ?_ | refine tr_ia2 (m32_of (by omega)) (by omega) rfl (fun _ => rfl) rfl (by decide) (by decide) (fun _ => rfl) ?_ | refine tr_size (by assumption) rfl rfl ?_ | refine tr_at2 (by assumption) (m32_of (by omega)) rfl rfl ?_)
        refine tr_size r_147 rfl rfl ?_
        rw [hG.1, show (((done ++ g :: suf).map (fun g => g.1)).length : Int) = ((done.length + 1 + suf.length : Nat) : Int) by simp; omega]
        refine tr_cmp2 rfl (m32_of (by omega)) (m32_of (by omega)) (fun c9 => absurd c9 (by show ¬ _ ≤ _; omega)) (fun _ => ?_)
        iterate 2 (refine tr_mv rfl (fun _ => rfl) ?_)
        refine tr_vc (q := 146) rfl ⟨by decide, by decide +kernel⟩ rfl rfl rfl (s_76 hG hk (by omega) (fun σ2 k1 k2 => ?_))
        have hjl := jn1_len (g :: suf)
        have hjk := jn1_ok (l := g :: suf) (fun x hx => hk x (List.mem_append.mpr (Or.inr hx)))
        cases hj : jn1 (g :: suf) with
        | nil => exact absurd hj (hjl.2 (by simp))
        | cons z zs =>
          rw [hj] at k1 hjl hjk
          rw [jnA_cons hj] at K'
          have hzl : (z :: zs).length = zs.length + 1 := rfl
          iterate 2 (refine tr_mv rfl (fun _ => rfl) ?_)
          show Tr Ls N 74 59 [some (mP (some 146)), some (mP (some b)), some (mI ((done.length : Int) + 1))] [] σ2 post
          rw [show (done.length : Int) + 1 = ((done ++ [z]).length : Int) by simp]
          refine ih (done ++ [z]) zs σ2 (by omega) (by simp; omega) (fun x hx => ?_) (by simpa using k1) (hc.tr k2) (by simpa using K')
          have hx2 : x ∈ done ∨ x ∈ z :: zs := by simpa using hx
          exact hx2.elim (fun h => hk x (List.mem_append.mpr (Or.inl h))) (fun h => hjk x h)
  -- the first loop
  have L1 : ∀ (rest done : List Int) (rg : List Gp) (σ' : Sg), Lc = done ++ rest → rg.length ≤ done.length → gpIs σ' rg.reverse → rest.foldl addR rg = Lc.foldl addR [] → chg gpR noC σ σ' → Tr Ls N 74 23 [some (mP (some 146)), some (mP (some b)), some (mI (done.length : Int))] [] σ' post := by
    intro rest
    induction rest with
    | nil =>
      intro done rg σ' e hrl hG hf hc
      rw [List.append_nil] at e
      have e9 := congrArg List.length e
      have hf : rg = Lc.foldl addR [] := hf
      iterate 2 (refine tr_mv rfl (fun _ => rfl) ?_)
      refine tr_size hb rfl rfl ?_
      rw [hb0 σ' hc]
      refine tr_cmp2 rfl (m32_of (by omega)) (m32_of (by omega)) (fun _ => ?_) (fun c9 => absurd (show (Lc.length : Int) ≤ (done.length : Int) by omega) c9)
      iterate 2 (refine tr_mv rfl (fun _ => rfl) ?_)
      rw [← hf] at K hfok
      exact L2 rg.length [] rg.reverse σ' (by simp) (by simp; omega) (fun g hg => hfok g (by simpa using hg)) (by simpa using hG) hc (fun σ2 k1 k2 => K σ2 (by simpa using k1) k2)
    | cons y rest ih =>
      intro done rg σ' e hrl hG hf hc
      have hlen : Lc.length = done.length + 1 + rest.length := by rw [e]; simp; omega
      have hy := hok y (by rw [e]; simp)
      have hal := addR_len rg y
      iterate 2 (refine tr_mv rfl (fun _ => rfl) ?_)
      refine tr_size hb rfl rfl ?_
      rw [hb0 σ' hc]
      refine tr_cmp2 rfl (m32_of (by omega)) (m32_of (by omega)) (fun c9 => absurd c9 (by show ¬ _ ≤ _; omega)) (fun _ => ?_)
      iterate 3 (refine tr_mv rfl (fun _ => rfl) ?_)
      refine tr_at2 hb (m32_of (by omega)) rfl rfl ?_
      rw [hb0 σ' hc, rget_app e]
      refine tr_stat rfl rfl rfl (s_63 (by omega) ?_)
      iterate 2 (refine tr_mv rfl (fun _ => rfl) ?_)
      refine tr_at2 hb (m32_of (by omega)) rfl rfl ?_
      rw [hb0 σ' hc, rget_app e]
      refine tr_stat rfl rfl rfl (s_62 (by omega) ?_)
      refine tr_vc (q := 146) rfl ⟨by decide, by decide +kernel⟩ rfl rfl rfl (s_75 hG (by omega) hy (fun σ2 k1 k2 => ?_))
      iterate 2 (refine tr_mv rfl (fun _ => rfl) ?_)
      show Tr Ls N 74 23 [some (mP (some 146)), some (mP (some b)), some (mI ((done.length : Int) + 1))] [] σ2 post
      rw [show (done.length : Int) + 1 = ((done ++ [y]).length : Int) by simp]
      exact ih (done ++ [y]) (addR rg y) σ2 (by rw [e]; simp) (by simp; omega) k1 hf (hc.tr k2)
  repeat (first | refine tr_gr rfl ⟨by decide, rfl⟩ (by decide) rfl ?_ | refine tr_gi rfl (by decide) ⟨by decide, rfl⟩ (by decide) rfl rfl ?_ | refine tr_gr rfl (by assumption) (by decide) (by assumption) ?_ | refine tr_gi rfl (by decide) (by assumption) (by decide) (by assumption) (by assumption) ?_ | (refine tr_rem ?_ ?_ rfl ?_; omega; omega) | (refine tr_div ?_ ?_ rfl ?_; omega; omega) | refine tr_mv rfl (fun _ => rfl) ?_ | refine tr_ia2 (m32_of (by omega)) (by omega) rfl (fun _ => rfl) rfl (by decide) (by decide) (fun _ => rfl) ?_ | refine tr_size (by assumption) rfl rfl ?_ | refine tr_at2 (by assumption) (m32_of (by omega)) rfl rfl ?_)
  refine tr_clear r_147 rfl rfl ?_
  repeat (first | refine tr_gr rfl ⟨by decide, rfl⟩ (by decide) rfl ?_ | refine tr_gi rfl (by decide) ⟨by decide, rfl⟩ (by decide) rfl rfl ?_ | refine tr_gr rfl (by assumption) (by decide) (by assumption) ?_ | refine tr_gi rfl (by decide) (by assumption) (by decide) (by assumption) (by assumption) ?_ | (refine tr_rem ?_ ?_ rfl ?_; omega; omega) | (refine tr_div ?_ ?_ rfl ?_; omega; omega) | refine tr_mv rfl (fun _ => rfl) ?_ | refine tr_ia2 (m32_of (by omega)) (by omega) rfl (fun _ => rfl) rfl (by decide) (by decide) (fun _ => rfl) ?_ | refine tr_size (by assumption) rfl rfl ?_ | refine tr_at2 (by assumption) (m32_of (by omega)) rfl rfl ?_)
  refine tr_clear r_149 rfl rfl ?_
  repeat (first | refine tr_gr rfl ⟨by decide, rfl⟩ (by decide) rfl ?_ | refine tr_gi rfl (by decide) ⟨by decide, rfl⟩ (by decide) rfl rfl ?_ | refine tr_gr rfl (by assumption) (by decide) (by assumption) ?_ | refine tr_gi rfl (by decide) (by assumption) (by decide) (by assumption) (by assumption) ?_ | (refine tr_rem ?_ ?_ rfl ?_; omega; omega) | (refine tr_div ?_ ?_ rfl ?_; omega; omega) | refine tr_mv rfl (fun _ => rfl) ?_ | refine tr_ia2 (m32_of (by omega)) (by omega) rfl (fun _ => rfl) rfl (by decide) (by decide) (fun _ => rfl) ?_ | refine tr_size (by assumption) rfl rfl ?_ | refine tr_at2 (by assumption) (m32_of (by omega)) rfl rfl ?_)
  refine tr_clear r_151 rfl rfl ?_
  iterate 2 (refine tr_mv rfl (fun _ => rfl) ?_)
  refine L1 Lc [] [] _ rfl (Nat.le_refl _) ⟨?_, ?_, ?_⟩ rfl (((chg.rf.setR (Or.inl rfl)).setR (Or.inr (Or.inl rfl))).setR (Or.inr (Or.inr rfl)))
  · rw [setR_ne _ _ (by decide), setR_ne _ _ (by decide), setR_same]
    rfl
  · rw [setR_ne _ _ (by decide), setR_same]
    rfl
  · rw [setR_same]
    rfl
end GRP2
