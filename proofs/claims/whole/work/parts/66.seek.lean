/-! Finding. -/
/-- were signs on both sides of the place taken together -/
abbrev tkOv (tk : List Int) (p : Nat) : Prop := ∃ x ∈ tk.drop p, x < (p : Int)
abbrev edgP (ss tk : List Int) (p : Nat) : Prop := ¬ isMrk (rget ss (p : Int)) ∧ ¬ tkOv tk p
/-- the first end from b on, d places -/
def fndB (Q : Nat → Bool) : Nat → Nat → Option Nat
  | 0, _ => none
  | d + 1, b => if Q b = true then some b else fndB Q d (b + 1)
def fndA (Q : Nat → Nat → Bool) (n : Nat) : Nat → Nat → Int
  | 0, _ => -1
  | d + 1, a => match fndB (Q a) (n - a) (a + 1) with
    | some b => 100 * (a : Int) + (b : Int)
    | none => fndA Q n d (a + 1)
def partOf (ss : List Int) (a b : Nat) : List Int := (ss.take b).drop a
def seekQ (D : TD) (o : Nat → Int) (d : Nat) (ss what tk : List Int) (a b : Nat) : Bool := decide (edgP ss tk a) && decide (edgP ss tk b) && decide (cmpL (keyOf D o d (partOf ss a b)) (keyOf D o d what) = 0)
section SEEK
variable {Ls N N1 N2 k pc n n' nn b c t u a q d kb : Nat} {L L0 : mLs} {st r as : List mV} {h h' : mH} {σ σ' σ'' : Sg} {post : tP} {x y z x' y' i i' s v m w kd bv lv sh : Int} {xs ys tk ss ss2 : List Int} {els : List El} {e : mE} {D : TD} {o : Nat → Int} {S : GS} {ee : El} {l : Bool}
theorem s_44 (hu : isEl u) (hS : elIs u σ els tk kd) {p : Nat} (hp : p < 1000) (K : post (.inl (some (mI (b2 (tkOv tk p))))) σ) : Tr Ls N 44 0 [some (mP (some u)), some (mI (p : Int)), none] [] σ post := by
  refine tr_fact fun ⟨h0, hr⟩ => ?_
  have hl := rep_len hr (L_r4 hu)
  have hin := rep_in hr (L_r4 hu)
  have hS5 := hS.2.2.2.2.1
  rw [hS5] at hl hin
  have loop : ∀ (rest done : List Int), tk = done ++ rest → (tkOv tk p → ∃ x ∈ rest, x < (p : Int)) → (∀ x ∈ rest, x < (p : Int) → tkOv tk p) → Tr Ls N 44 6 [some (mP (some u)), some (mI (p : Int)), some (mI (done.length : Int))] [] σ post := by
    intro rest
    induction rest with
    | nil =>
      intro done e g1 g2
      rw [List.append_nil] at e
      iterate 1 (refine tr_mv rfl (fun _ => rfl) ?_)
      refine tr_mv rfl (fun _ => rfl) ?_
      refine tr_gr rfl (L_O hu) (by decide) (L_p4 hu) ?_
      refine tr_size (L_r4 hu) rfl rfl ?_
      rw [hS5]
      rw [e] at hl ⊢
      refine tr_cmp2 rfl (m32_of (by omega)) (m32_of (by omega)) (fun _ => ?_) (fun c1 => absurd (Int.le_refl _) c1)
      iterate 1 (refine tr_mv rfl (fun _ => rfl) ?_)
      refine tr_rb0 rfl (fun g => ?_) K
      obtain ⟨x, hx, -⟩ := g1 g
      cases hx
    | cons y rest ih =>
      intro done e g1 g2
      have hlen : tk.length = done.length + 1 + rest.length := by rw [e]; simp; omega
      have hy := hin y (by rw [e]; simp)
      iterate 2 (refine tr_mv rfl (fun _ => rfl) ?_)
      refine tr_gr rfl (L_O hu) (by decide) (L_p4 hu) ?_
      refine tr_size (L_r4 hu) rfl rfl ?_
      rw [hS5]
      refine tr_cmp2 rfl (m32_of (by omega)) (m32_of (by omega)) (fun c1 => absurd c1 (by show ¬ _ ≤ _; omega)) (fun _ => ?_)
      iterate 1 (refine tr_mv rfl (fun _ => rfl) ?_)
      refine tr_gr rfl (L_O hu) (by decide) (L_p4 hu) ?_
      iterate 1 (refine tr_mv rfl (fun _ => rfl) ?_)
      refine tr_at2 (L_r4 hu) (m32_of (by omega)) rfl rfl ?_
      rw [hS5, rget_app e]
      iterate 1 (refine tr_mv rfl (fun _ => rfl) ?_)
      refine tr_cmp2 rfl (m32_of (by omega)) (m32_of (by omega)) (fun c2 => ?_) (fun c2 => ?_)
      · iterate 2 (refine tr_mv rfl (fun _ => rfl) ?_)
        show Tr Ls N 44 6 [some (mP (some u)), some (mI (p : Int)), some (mI ((done.length : Int) + 1))] [] σ post
        rw [show (done.length : Int) + 1 = ((done ++ [y]).length : Int) by simp]
        refine ih (done ++ [y]) (by rw [e]; simp) (fun g => ?_) (fun x hx => g2 x (List.mem_cons_of_mem _ hx))
        obtain ⟨x, hx, hx2⟩ := g1 g
        rcases List.mem_cons.mp hx with e9 | e9
        · subst e9
          omega
        · exact ⟨x, e9, hx2⟩
      · iterate 1 (refine tr_mv rfl (fun _ => rfl) ?_)
        exact tr_rb1 rfl (g2 y List.mem_cons_self (by omega)) K
  iterate 2 (refine tr_mv rfl (fun _ => rfl) ?_)
  refine tr_stat rfl rfl rfl (s_329 (by omega) (by omega) ?_)
  rw [if_neg (by omega)]
  iterate 1 (refine tr_mv rfl (fun _ => rfl) ?_)
  by_cases c0 : p ≤ tk.length
  · have h9 := loop (tk.drop p) (tk.take p) (List.take_append_drop _ _).symm (fun g => g) (fun x hx hx2 => ⟨x, hx, hx2⟩)
    rw [show (tk.take p).length = p by rw [List.length_take]; omega] at h9
    exact h9
  · iterate 2 (refine tr_mv rfl (fun _ => rfl) ?_)
    refine tr_gr rfl (L_O hu) (by decide) (L_p4 hu) ?_
    refine tr_size (L_r4 hu) rfl rfl ?_
    rw [hS5]
    refine tr_cmp2 rfl (m32_of (by omega)) (m32_of (by omega)) (fun _ => ?_) (fun c1 => absurd (show (tk.length : Int) ≤ (p : Int) by omega) c1)
    iterate 1 (refine tr_mv rfl (fun _ => rfl) ?_)
    refine tr_rb0 rfl (fun g => ?_) K
    obtain ⟨x, hx, -⟩ := g
    rw [List.drop_eq_nil_of_le (by omega)] at hx
    cases hx
theorem s_11 (hS : elIs 109 σ els tk kd) (hb : isRow b n) (hs : σ.1 b = ss) {p : Nat} (hp : p < 1000) (K : post (.inl (some (mI (b2 (edgP ss tk p))))) σ) : Tr Ls N 11 0 [some (mP (some 108)), some (mP (some b)), some (mI (p : Int))] [] σ post := by
  refine tr_fact fun ⟨h0, hr⟩ => ?_
  have hin := rget_in (rep_in hr hb) (p : Int)
  rw [hs] at hin
  iterate 2 (refine tr_mv rfl (fun _ => rfl) ?_)
  refine tr_at2 hb (m32_of (by omega)) rfl rfl ?_
  rw [hs]
  refine tr_stat rfl rfl rfl (s_179 hin ?_)
  first | refine tr_ib rfl (fun c1 => ?_) (fun c1 => ?_) | refine tr_ibn rfl (fun c1 => ?_) (fun c1 => ?_)
  · iterate 1 (refine tr_mv rfl (fun _ => rfl) ?_)
    exact tr_rb0 rfl (fun g => g.1 c1) K
  · repeat (first | refine tr_gr rfl ⟨by decide, rfl⟩ (by decide) rfl ?_ | refine tr_gi rfl (by decide) ⟨by decide, rfl⟩ (by decide) rfl rfl ?_ | refine tr_gr rfl (by assumption) (by decide) (by assumption) ?_ | refine tr_gi rfl (by decide) (by assumption) (by decide) (by assumption) (by assumption) ?_ | (refine tr_rem ?_ ?_ rfl ?_; omega; omega) | (refine tr_div ?_ ?_ rfl ?_; omega; omega) | refine tr_mv rfl (fun _ => rfl) ?_ | refine tr_ia2 (m32_of (by omega)) (by omega) rfl (fun _ => rfl) rfl (by decide) (by decide) (fun _ => rfl) ?_ | refine tr_size (by assumption) rfl rfl ?_ | refine tr_at2 (by assumption) (m32_of (by omega)) rfl rfl ?_)
    refine tr_vc (q := 109) rfl (L_O el109) rfl rfl rfl (s_44 el109 hS hp ?_)
    first | refine tr_ib rfl (fun c2 => ?_) (fun c2 => ?_) | refine tr_ibn rfl (fun c2 => ?_) (fun c2 => ?_)
    · iterate 1 (refine tr_mv rfl (fun _ => rfl) ?_)
      exact tr_rb0 rfl (fun g => g.2 c2) K
    · iterate 2 (refine tr_mv rfl (fun _ => rfl) ?_)
      exact tr_rb1 rfl ⟨c1, c2⟩ K
theorem elIs109.pk (hS : elIs 109 σ els tk kd) (hc : chg (pkR kb) (elC 120) σ σ') (hk : kb = 135 ∨ kb = 137) : elIs 109 σ' els tk kd := by
  obtain ⟨k1, k2, k3, k4, k5, k6⟩ := hS
  exact ⟨(hc.1 _ (by omega)).trans k1, (hc.1 _ (by omega)).trans k2, (hc.1 _ (by omega)).trans k3, (hc.1 _ (by omega)).trans k4, (hc.1 _ (by omega)).trans k5, (hc.2 _ _ (by omega)).trans k6⟩
theorem partOf_ok (h40 : okA40 ss) (a b : Nat) : okA40 (partOf ss a b) := fun s hs => h40 s (List.mem_of_mem_take (List.mem_of_mem_drop hs))
theorem partOf_len (ss : List Int) (a b : Nat) : (partOf ss a b).length = min b ss.length - a := by
  unfold partOf
  rw [List.length_drop, List.length_take]
theorem s_10 (ht : isT t) (hD2 : okTD D) (hD : tlC t σ D) (hO : opC t σ o) (hb : isRow b n) (hbs : sgRow b) (hb9 : b ≠ 139) (hs : σ.1 b = ss) (h40 : okA40 ss) (hls : ss.length ≤ 31) (ha : isRow a n') (has : sgRow a) (hs2 : σ.1 a = ss2) (h402 : okA40 ss2) (hls2 : ss2.length ≤ 31) (hd : d ≤ 4) (hx : 0 ≤ x ∧ x < 2147483647)
    (K : ∀ σ', chg colR colC σ σ' → post (.inl (some (mI (fndA (seekQ D o d ss ss2 (gthR D (o 2) ss).2.1) ss.length (ss.length - x.toNat) x.toNat)))) σ') :
    Tr Ls N 10 0 [some (mP (some 108)), some (mP (some t)), some (mI (d : Int)), some (mP (some b)), some (mP (some a)), some (mI x), none, none] [] σ post := by
  repeat (first | refine tr_gr rfl ⟨by decide, rfl⟩ (by decide) rfl ?_ | refine tr_gi rfl (by decide) ⟨by decide, rfl⟩ (by decide) rfl rfl ?_ | refine tr_gr rfl (by assumption) (by decide) (by assumption) ?_ | refine tr_gi rfl (by decide) (by assumption) (by decide) (by assumption) (by assumption) ?_ | (refine tr_rem ?_ ?_ rfl ?_; omega; omega) | (refine tr_div ?_ ?_ rfl ?_; omega; omega) | refine tr_mv rfl (fun _ => rfl) ?_ | refine tr_ia2 (m32_of (by omega)) (by omega) rfl (fun _ => rfl) rfl (by decide) (by decide) (fun _ => rfl) ?_ | refine tr_size (by assumption) rfl rfl ?_ | refine tr_at2 (by assumption) (m32_of (by omega)) rfl rfl ?_)
  refine tr_vc (q := 109) rfl (L_O el109) rfl rfl rfl (s_35 ht el109 hD2 hD hO hb (by omega) hs h40 hls (fun σ1 g1 g2 => ?_))
  have c1 := g2.wk (el_col el109) (el_colC el109)
  repeat (first | refine tr_gr rfl ⟨by decide, rfl⟩ (by decide) rfl ?_ | refine tr_gi rfl (by decide) ⟨by decide, rfl⟩ (by decide) rfl rfl ?_ | refine tr_gr rfl (by assumption) (by decide) (by assumption) ?_ | refine tr_gi rfl (by decide) (by assumption) (by decide) (by assumption) (by assumption) ?_ | (refine tr_rem ?_ ?_ rfl ?_; omega; omega) | (refine tr_div ?_ ?_ rfl ?_; omega; omega) | refine tr_mv rfl (fun _ => rfl) ?_ | refine tr_ia2 (m32_of (by omega)) (by omega) rfl (fun _ => rfl) rfl (by decide) (by decide) (fun _ => rfl) ?_ | refine tr_size (by assumption) rfl rfl ?_ | refine tr_at2 (by assumption) (m32_of (by omega)) rfl rfl ?_)
  refine tr_vc (q := 108) rfl ⟨by decide, by decide +kernel⟩ rfl rfl rfl (s_2 ht hD2 (hD.col c1 ht) (hO.col c1 ht) ha has ((g2.1 a (by omega)).trans hs2) h402 hls2 hd (kb137 ht) (by omega) (fun σ2 g3 g4 => ?_))
  have c2 := c1.tr (g4.wk (pk_col (Or.inr rfl)) pk_colC)
  have gS := elIs109.pk g1 g4 (Or.inr rfl)
  iterate 2 (refine tr_mv rfl (fun _ => rfl) ?_)
  generalize hG : (gthR D (o 2) ss) = G at *
  -- the inner loop
  have inner : ∀ (A : Nat), A < ss.length → (∀ v7 σ', chg colR colC σ σ' → elIs 109 σ' G.1 G.2.1 G.2.2 → σ'.1 137 = keyOf D o d ss2 → fndB (seekQ D o d ss ss2 G.2.1 A) (ss.length - A) (A + 1) = none → Tr Ls N 10 134 [some (mP (some 108)), some (mP (some t)), some (mI (d : Int)), some (mP (some b)), some (mP (some a)), some (mI x), some (mI (A : Int)), v7] [] σ' post) → (∀ B σ', chg colR colC σ σ' → fndB (seekQ D o d ss ss2 G.2.1 A) (ss.length - A) (A + 1) = some B → post (.inl (some (mI (100 * (A : Int) + (B : Int))))) σ') →
      ∀ (dd B : Nat) (σ' : Sg), B + dd = ss.length + 1 → A < B → fndB (seekQ D o d ss ss2 G.2.1 A) (ss.length - A) (A + 1) = fndB (seekQ D o d ss ss2 G.2.1 A) dd B → chg colR colC σ σ' → elIs 109 σ' G.1 G.2.1 G.2.2 → σ'.1 137 = keyOf D o d ss2 → Tr Ls N 10 40 [some (mP (some 108)), some (mP (some t)), some (mI (d : Int)), some (mP (some b)), some (mP (some a)), some (mI x), some (mI (A : Int)), some (mI (B : Int))] [] σ' post := by
    intro A hA KN KS dd
    induction dd with
    | zero =>
      intro B σ' e1 e2 e3 hc hS hk
      iterate 2 (refine tr_mv rfl (fun _ => rfl) ?_)
      refine tr_size hb rfl rfl ?_
      rw [hc.1 b (by omega), hs]
      refine tr_cmp2 rfl (m32_of (by omega)) (m32_of (by omega)) (fun _ => ?_) (fun c1 => absurd (show (ss.length : Int) < (B : Int) by omega) c1)
      exact KN _ σ' hc hS hk (by rw [e3]; rfl)
    | succ dd ih =>
      intro B σ' e1 e2 e3 hc hS hk
      have hsb := (hc.1 b (by omega)).trans hs
      have hnx : ∀ σ', chg colR colC σ σ' → elIs 109 σ' G.1 G.2.1 G.2.2 → σ'.1 137 = keyOf D o d ss2 → seekQ D o d ss ss2 G.2.1 A B = false → Tr Ls N 10 128 [some (mP (some 108)), some (mP (some t)), some (mI (d : Int)), some (mP (some b)), some (mP (some a)), some (mI x), some (mI (A : Int)), some (mI (B : Int))] [] σ' post := by
        intro σ' hc hS hk hq
        iterate 2 (refine tr_mv rfl (fun _ => rfl) ?_)
        show Tr Ls N 10 40 [some (mP (some 108)), some (mP (some t)), some (mI (d : Int)), some (mP (some b)), some (mP (some a)), some (mI x), some (mI (A : Int)), some (mI ((B : Int) + 1))] [] σ' post
        rw [show (B : Int) + 1 = ((B + 1 : Nat) : Int) by omega]
        refine ih (B + 1) σ' (by omega) (by omega) ?_ hc hS hk
        rw [e3]
        show (if seekQ D o d ss ss2 G.2.1 A B = true then _ else _) = _
        rw [hq]
        rfl
      iterate 2 (refine tr_mv rfl (fun _ => rfl) ?_)
      refine tr_size hb rfl rfl ?_
      rw [hsb]
      refine tr_cmp2 rfl (m32_of (by omega)) (m32_of (by omega)) (fun c1 => absurd c1 (by show ¬ _ < _; omega)) (fun _ => ?_)
      iterate 3 (refine tr_mv rfl (fun _ => rfl) ?_)
      refine tr_vc (q := 108) rfl ⟨by decide, by decide +kernel⟩ rfl rfl rfl (s_11 hS hb hsb (p := A) (by omega) ?_)
      first | refine tr_ib rfl (fun q1 => ?_) (fun q1 => ?_) | refine tr_ibn rfl (fun q1 => ?_) (fun q1 => ?_)
      · refine KN _ σ' hc hS hk ?_
        have hno : ∀ (dd B : Nat), fndB (seekQ D o d ss ss2 G.2.1 A) dd B = none := by
          intro dd
          induction dd with
          | zero => intro B; rfl
          | succ dd ih2 =>
            intro B
            show (if seekQ D o d ss ss2 G.2.1 A B = true then _ else _) = _
            rw [if_neg (by unfold seekQ; rw [decide_eq_false q1]; simp)]
            exact ih2 (B + 1)
        exact hno _ _
      · iterate 3 (refine tr_mv rfl (fun _ => rfl) ?_)
        refine tr_vc (q := 108) rfl ⟨by decide, by decide +kernel⟩ rfl rfl rfl (s_11 hS hb hsb (p := B) (by omega) ?_)
        first | refine tr_ib rfl (fun q2 => ?_) (fun q2 => ?_) | refine tr_ibn rfl (fun q2 => ?_) (fun q2 => ?_)
        · repeat (first | refine tr_gr rfl ⟨by decide, rfl⟩ (by decide) rfl ?_ | refine tr_gi rfl (by decide) ⟨by decide, rfl⟩ (by decide) rfl rfl ?_ | refine tr_gr rfl (by assumption) (by decide) (by assumption) ?_ | refine tr_gi rfl (by decide) (by assumption) (by decide) (by assumption) (by assumption) ?_ | (refine tr_rem ?_ ?_ rfl ?_; omega; omega) | (refine tr_div ?_ ?_ rfl ?_; omega; omega) | refine tr_mv rfl (fun _ => rfl) ?_ | refine tr_ia2 (m32_of (by omega)) (by omega) rfl (fun _ => rfl) rfl (by decide) (by decide) (fun _ => rfl) ?_ | refine tr_size (by assumption) rfl rfl ?_ | refine tr_at2 (by assumption) (m32_of (by omega)) rfl rfl ?_)
          refine tr_clear r_139 rfl rfl ?_
          repeat (first | refine tr_gr rfl ⟨by decide, rfl⟩ (by decide) rfl ?_ | refine tr_gi rfl (by decide) ⟨by decide, rfl⟩ (by decide) rfl rfl ?_ | refine tr_gr rfl (by assumption) (by decide) (by assumption) ?_ | refine tr_gi rfl (by decide) (by assumption) (by decide) (by assumption) (by assumption) ?_ | (refine tr_rem ?_ ?_ rfl ?_; omega; omega) | (refine tr_div ?_ ?_ rfl ?_; omega; omega) | refine tr_mv rfl (fun _ => rfl) ?_ | refine tr_ia2 (m32_of (by omega)) (by omega) rfl (fun _ => rfl) rfl (by decide) (by decide) (fun _ => rfl) ?_ | refine tr_size (by assumption) rfl rfl ?_ | refine tr_at2 (by assumption) (m32_of (by omega)) rfl rfl ?_)
          have hsb2 : (setR σ' 139 []).1 b = ss := by rw [setR_ne _ _ (by omega)]; exact hsb
          refine tr_vc (q := 139) rfl ⟨by decide, by decide +kernel⟩ rfl rfl rfl (s_101 r_139 hb (by omega) (by rw [hsb2]; omega) (by rw [setR_same]; simp; omega) ?_)
          rw [setR_same, setR_setR, hsb2, List.nil_append, Int.toNat_natCast, Int.toNat_natCast]
          have hcc : chg colR colC σ (setR σ' 139 (partOf ss A B)) := hc.setR ⟨by decide, by decide⟩
          have hpl := partOf_len ss A B
          repeat (first | refine tr_gr rfl ⟨by decide, rfl⟩ (by decide) rfl ?_ | refine tr_gi rfl (by decide) ⟨by decide, rfl⟩ (by decide) rfl rfl ?_ | refine tr_gr rfl (by assumption) (by decide) (by assumption) ?_ | refine tr_gi rfl (by decide) (by assumption) (by decide) (by assumption) (by assumption) ?_ | (refine tr_rem ?_ ?_ rfl ?_; omega; omega) | (refine tr_div ?_ ?_ rfl ?_; omega; omega) | refine tr_mv rfl (fun _ => rfl) ?_ | refine tr_ia2 (m32_of (by omega)) (by omega) rfl (fun _ => rfl) rfl (by decide) (by decide) (fun _ => rfl) ?_ | refine tr_size (by assumption) rfl rfl ?_ | refine tr_at2 (by assumption) (m32_of (by omega)) rfl rfl ?_)
          refine tr_vc (q := 108) rfl ⟨by decide, by decide +kernel⟩ rfl rfl rfl (s_2 (ss := partOf ss A B) ht hD2 (hD.col hcc ht) (hO.col hcc ht) r_139 (Or.inr (Or.inl rfl)) (setR_same _ _ _) (partOf_ok h40 A B) (by omega) hd (kb135 ht) (by decide) (fun σ3 k1 k2 => ?_))
          have hc3 := hcc.tr (k2.wk (pk_col (Or.inl rfl)) pk_colC)
          have hk3 : σ3.1 137 = keyOf D o d ss2 := (k2.1 137 (by omega)).trans ((setR_ne _ _ (by decide)).trans hk)
          repeat (first | refine tr_gr rfl ⟨by decide, rfl⟩ (by decide) rfl ?_ | refine tr_gi rfl (by decide) ⟨by decide, rfl⟩ (by decide) rfl rfl ?_ | refine tr_gr rfl (by assumption) (by decide) (by assumption) ?_ | refine tr_gi rfl (by decide) (by assumption) (by decide) (by assumption) (by assumption) ?_ | (refine tr_rem ?_ ?_ rfl ?_; omega; omega) | (refine tr_div ?_ ?_ rfl ?_; omega; omega) | refine tr_mv rfl (fun _ => rfl) ?_ | refine tr_ia2 (m32_of (by omega)) (by omega) rfl (fun _ => rfl) rfl (by decide) (by decide) (fun _ => rfl) ?_ | refine tr_size (by assumption) rfl rfl ?_ | refine tr_at2 (by assumption) (m32_of (by omega)) rfl rfl ?_)
          refine tr_stat rfl rfl rfl (s_192 r_135 r_137 ?_)
          rw [k1, hk3]
          have hci := cmpL_in (keyOf D o d (partOf ss A B)) (keyOf D o d ss2)
          refine tr_if2 rfl (m32_of (by omega)) (fun q3 => ?_) (fun q3 => ?_)
          · exact hnx σ3 hc3 (elIs109.pk (elIs_setR el109 hS (by omega)) k2 (Or.inl rfl)) hk3 (by unfold seekQ; rw [decide_eq_false (show ¬ cmpL (keyOf D o d (partOf ss A B)) (keyOf D o d ss2) = 0 from q3)]; simp)
          · iterate 5 (refine tr_mv rfl (fun _ => rfl) ?_)
            refine tr_ri rfl rfl (KS B σ3 hc3 ?_)
            rw [e3]
            show (if seekQ D o d ss ss2 G.2.1 A B = true then _ else _) = _
            rw [if_pos ?_]
            unfold seekQ
            rw [decide_eq_true q1, decide_eq_true q2, decide_eq_true (Decidable.byContradiction q3)]
            rfl
        · iterate 1 (refine tr_mv rfl (fun _ => rfl) ?_)
          exact hnx σ' hc hS hk (by unfold seekQ; rw [decide_eq_false q2]; simp)
  have outer : ∀ (dd A : Nat) (v7 : Option mV) (σ' : Sg), dd = ss.length - A → mok 7 [some (mP (some 108)), some (mP (some t)), some (mI (d : Int)), some (mP (some b)), some (mP (some a)), some (mI x), some (mI (A : Int)), v7] = true → A < 2147483648 → (∀ σ', chg colR colC σ σ' → post (.inl (some (mI (fndA (seekQ D o d ss ss2 G.2.1) ss.length dd A)))) σ') → chg colR colC σ σ' → elIs 109 σ' G.1 G.2.1 G.2.2 → σ'.1 137 = keyOf D o d ss2 → Tr Ls N 10 25 [some (mP (some 108)), some (mP (some t)), some (mI (d : Int)), some (mP (some b)), some (mP (some a)), some (mI x), some (mI (A : Int)), v7] [] σ' post := by
    intro dd
    induction dd with
    | zero =>
      intro A v7 σ' e1 m7 hA K' hc hS hk
      iterate 2 (refine tr_mv rfl (fun _ => rfl) ?_)
      refine tr_size hb rfl rfl ?_
      rw [hc.1 b (by omega), hs]
      refine tr_cmp2 rfl (m32_of (by omega)) (m32_of (by omega)) (fun _ => ?_) (fun c1 => absurd (show (ss.length : Int) ≤ (A : Int) by omega) c1)
      iterate 1 (refine tr_mv rfl (fun _ => rfl) ?_)
      exact tr_ri rfl rfl (K' σ' hc)
    | succ dd ih =>
      intro A v7 σ' e1 m7 hA K' hc hS hk
      iterate 2 (refine tr_mv rfl (fun _ => rfl) ?_)
      refine tr_size hb rfl rfl ?_
      rw [hc.1 b (by omega), hs]
      refine tr_cmp2 rfl (m32_of (by omega)) (m32_of (by omega)) (fun c1 => absurd c1 (by show ¬ _ ≤ _; omega)) (fun _ => ?_)
      iterate 4 (refine tr_mv rfl (fun _ => rfl) ?_)
      show Tr Ls N 10 40 [some (mP (some 108)), some (mP (some t)), some (mI (d : Int)), some (mP (some b)), some (mP (some a)), some (mI x), some (mI (A : Int)), some (mI ((A : Int) + 1))] [] σ' post
      rw [show (A : Int) + 1 = ((A + 1 : Nat) : Int) by omega]
      refine inner A (by omega) (fun v7 σ3 k1 k2 k3 k4 => ?_) (fun B σ3 k1 k2 => ?_) (ss.length - A) (A + 1) σ' (by omega) (by omega) rfl hc hS hk
      · iterate 2 (refine tr_mv rfl (fun _ => rfl) ?_)
        show Tr Ls N 10 25 [some (mP (some 108)), some (mP (some t)), some (mI (d : Int)), some (mP (some b)), some (mP (some a)), some (mI x), some (mI ((A : Int) + 1)), v7] [] σ3 post
        rw [show (A : Int) + 1 = ((A + 1 : Nat) : Int) by omega]
        refine ih (A + 1) v7 σ3 (by omega) ?_ (by omega) (fun σ4 q1 => ?_) k1 k2 k3
        · rfl
        · have := K' σ4 q1
          unfold fndA at this
          rw [k4] at this
          exact this
      · have := K' σ3 k1
        unfold fndA at this
        rw [k2] at this
        exact this
  have h9 := outer (ss.length - x.toNat) x.toNat none σ2 rfl rfl (by omega) K c2 gS g3
  rw [show ((x.toNat : Nat) : Int) = x by omega] at h9
  exact h9
end SEEK
