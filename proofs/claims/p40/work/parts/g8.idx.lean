/-! The law's own rows; its isIndex. -/
/-- parents, sets, how many locators: as the law has them -/
def lawA (σ : Sg) (en : List EnT) : Prop := (∀ k, k < en.length → σ.2 480 k = enP (en.getD k enD) ∧ σ.2 481 k = (enS (en.getD k enD) : Int) ∧ σ.2 482 k = ((enL (en.getD k enD)).length : Int)) ∧ ∀ k, en.length ≤ k → k < 24 → σ.2 482 k = 0
abbrev isLw (q : Nat) : Prop := q = 480 ∨ q = 481 ∨ q = 482
theorem lw_sh : ∀ q, isLw q → mShp[q]? = some (0, 24) ∧ rowC q = false := by
  intro q hq
  rcases hq with e | e | e <;> subst e <;> exact ⟨by decide +kernel, by decide +kernel⟩
theorem lw_pt : ∀ q j, isLw q → mPtr q j = none := by
  intro q j hq
  cases hp : mPtr q j with
  | none => rfl
  | some v =>
    obtain ⟨p, g1, g2⟩ := mPf_mem hp
    have := List.all_eq_true.mp (show (mPts.all fun p => decide (p.1 < 480)) = true by decide +kernel) p g1
    simp at this
    unfold isLw at hq
    omega
section IDX
variable {Ls N N1 k pc n a b c d q kk X j : Nat} {L : mLs} {r : List mV} {σ σ' σ0 σ1 σ2 : Sg} {post : tP} {i x y z v w : Int} {B M : Int → Int} {ds an dA t A A2 : List Int} {ws rs PA PB : List Int} {tx : List (List Int)} {D3 : Nat → TD} {o3 : Nat → Nat → Int} {R3 : Nat → RuT} {hd : Nat → Int} {en : List EnT} {bf : Nat → List Nat} {rd : Nat → List Int} {hh ww : Int} {v3 v4 v5 v6 v7 v8 v9 v10 v11 v12 : Option mV}
theorem lawA.of (h : lawA σ en) (hk : kp4 σ σ') : lawA σ' en := ⟨fun k g => by
  rw [hk 480 k (by omega), hk 481 k (by omega), hk 482 k (by omega)]
  exact h.1 k g, fun k g1 g2 => by
  rw [hk 482 k (by omega)]
  exact h.2 k g1 g2⟩
theorem tr_la (hq : isLw q) (hk : kk < 24) (he : mPg.1 k pc = some (.iaload, n, a, b, c)) (K : Tr Ls N k (pc + n) L (mI (σ.2 q kk) :: r) σ post) : Tr Ls N k pc L (mI (kk : Int) :: mP (some q) :: r) σ post := by
  have e : m32 (kk : Int) = (kk : Int) := m32_of (by omega)
  refine tr_ia (kd := 0) (nn := 24) (by rw [e]; omega) he (fun _ => rfl) (lw_sh q hq).1 (by unfold isLw at hq; omega) (lw_sh q hq).2 (fun j => lw_pt q j hq) ?_
  rw [e]
  exact K
theorem tr_ls (hq : isLw q) (hk : kk < 24) (he : mPg.1 k pc = some (.iastore, n, a, b, c)) (K : Tr Ls N k (pc + n) L r (setF σ q kk x) post) : Tr Ls N k pc L (mI x :: mI (kk : Int) :: mP (some q) :: r) σ post := by
  have e : m32 (kk : Int) = (kk : Int) := m32_of (by omega)
  refine tr_is (kd := 0) (nn := 24) (by rw [e]; omega) he (fun _ => rfl) (lw_sh q hq).1 (by unfold isLw at hq; omega) (lw_sh q hq).2 (fun j => lw_pt q j hq) ?_
  rw [e]
  exact K
theorem p_9v (h : StC σ B M ds an tx D3 o3 R3 hd en bf ws rs rd PA PB hh ww) (hX : X < 3) (hj : in32 (j : Int)) (hl : j < (ordE tx en (D3 X) (o3 X) X).length) (K : ∀ σ', StC σ' B M ds an tx D3 o3 R3 hd en bf ws rs rd PA PB hh ww → kp4 σ σ' → post (.inl (some (mI (((ordE tx en (D3 X) (o3 X) X).getD j 0 : Nat) : Int)))) σ') : Tr Ls N 332 0 [some (mP (some 2)), some (mI 9), some (mI (X : Int)), some (mI (j : Int)), some (mI z), none] [] σ post := by
  refine s_on0 ?_
  repeat (refine tr_mv rfl (fun _ => rfl) ?_)
  refine tr_vc (q := 2) rfl ⟨by decide, by decide +kernel⟩ rfl rfl rfl (tr_nox (M := 1) (by decide) (q_157 (N := 0) h hX hj (fun σ' g h' k' => absurd hl g) (fun σ' g h' k' => ⟨⟨_, rfl⟩, ?_⟩)))
  repeat (refine tr_mv rfl (fun _ => rfl) ?_)
  exact tr_ri rfl rfl ⟨_, rfl, K σ' h' k'⟩
theorem or_seen {s e : Nat} {l : List Nat} (hs : ∀ i, s.testBit i = true ↔ i ∈ l) : ∀ i, (s ||| 2 ^ e).testBit i = true ↔ i ∈ l ++ [e] := by
  intro i
  rw [Nat.testBit_or, Nat.testBit_two_pow, Bool.or_eq_true, hs i, decide_eq_true_iff, List.mem_append, List.mem_singleton]
  constructor
  · rintro (g | g)
    · exact Or.inl g
    · exact Or.inr g.symm
  · rintro (g | g)
    · exact Or.inl g
    · exact Or.inr g.symm
/-- how many are due -/
theorem s_336_due (hA : lawA σ en) (hE : okEn tx en) (hX : X < 3) (K : Tr Ls N 336 199 [some (mP (some 2)), some (mP (some 480)), some (mP (some 481)), some (mI (en.length : Int)), some (mI (X : Int)), v5, v6, v7, v8, some (mI 1), some (mI v), some (mI (cntI en X en.length : Int)), some (mI (en.length : Int))] [] σ post) :
    ∀ (m k : Nat), m + k = en.length → Tr Ls N 336 173 [some (mP (some 2)), some (mP (some 480)), some (mP (some 481)), some (mI (en.length : Int)), some (mI (X : Int)), v5, v6, v7, v8, some (mI 1), some (mI v), some (mI (cntI en X k : Int)), some (mI (k : Int))] [] σ post := by
  have hE24 := hE.1
  intro m
  induction m with
  | zero =>
    intro k hk
    have e : k = en.length := by omega
    subst e
    iterate 2 (refine tr_mv rfl (fun _ => rfl) ?_)
    refine tr_cmp2 rfl (m32_of (by omega)) (m32_of (by omega)) (fun c1 => ?_) (fun c1 => ?_)
    · exact K
    · exfalso
      omega
  | succ m ih =>
    intro k hk
    have hS := (hE.2.1 _ (enD_mem (show k < en.length by omega))).2.1
    iterate 2 (refine tr_mv rfl (fun _ => rfl) ?_)
    refine tr_cmp2 rfl (m32_of (by omega)) (m32_of (by omega)) (fun c1 => ?_) (fun c1 => ?_)
    · exfalso
      omega
    iterate 3 (refine tr_mv rfl (fun _ => rfl) ?_)
    refine tr_la (Or.inr (Or.inl rfl)) (by omega) rfl ?_
    rw [(hA.1 k (by omega)).2.1]
    iterate 2 (refine tr_mv rfl (fun _ => rfl) ?_)
    refine tr_top (w_shr (a := enS (en.getD k enD)) (p := X) (by omega) (by omega)) ?_
    iterate 2 (refine tr_mv rfl (fun _ => rfl) ?_)
    have hlt : enS (en.getD k enD) / 2 ^ X ≤ enS (en.getD k enD) := Nat.div_le_self _ _
    refine tr_top (w_a1 (a := enS (en.getD k enD) / 2 ^ X) (by omega)) ?_
    iterate 4 (refine tr_mv rfl (fun _ => rfl) ?_)
    have := ih (k + 1) (by omega)
    have e : cntI en X (k + 1) = cntI en X k + enS (en.getD k enD) / 2 ^ X % 2 := rfl
    rw [e] at this
    rw [show ((k + 1 : Nat) : Int) = (k : Int) + 1 by omega, show ((cntI en X k + enS (en.getD k enD) / 2 ^ X % 2 : Nat) : Int) = (cntI en X k : Int) + ((enS (en.getD k enD) / 2 ^ X % 2 : Nat) : Int) by omega] at this
    exact this
theorem s_336_end (h : StC σ B M ds an tx D3 o3 R3 hd en bf ws rs rd PA PB hh ww) (hA : lawA σ en) (hX : X < 3) (hk : k = (ordE tx en (D3 X) (o3 X) X).length) (K : ∀ σ', StC σ' B M ds an tx D3 o3 R3 hd en bf ws rs rd PA PB hh ww → kp4 σ σ' → post (.inl (some (mI 1))) σ') :
    Tr Ls N 336 167 [some (mP (some 2)), some (mP (some 480)), some (mP (some 481)), some (mI (en.length : Int)), some (mI (X : Int)), v5, some (mI (k : Int)), v7, v8, some (mI 1), some (mI v), v11, v12] [] σ post := by
  have hE := h.1.ens
  have hc := ordE_cnt (D := D3 X) (o := o3 X) hE X
  have hl24 := ordE_len (D := D3 X) (o := o3 X) hE X
  have hbf := (h.1.bfs X hX).1
  iterate 4 (refine tr_mv rfl (fun _ => rfl) ?_)
  refine s_336_due hA hE hX ?_ en.length 0 (Nat.add_zero _)
  rw [← hc]
  iterate 4 (refine tr_mv rfl (fun _ => rfl) ?_)
  refine tr_cmp2 rfl (m32_of (by omega)) (m32_of (by omega)) (fun c1 => ?_) (fun c1 => ?_)
  · exfalso
    omega
  iterate 2 (refine tr_mv rfl (fun _ => rfl) ?_)
  refine tr_vc (q := 2) rfl ⟨by decide, by decide +kernel⟩ rfl rfl rfl (q_162 h hX (fun σ' h' k' => ?_))
  have hd := dif_le (ci (ordE tx en (D3 X) (o3 X) X)) (ci (bf X)) (bf X).length
  iterate 1 (refine tr_mv rfl (fun _ => rfl) ?_)
  refine tr_cmp2 rfl (m32_of (by omega)) (m32_of (by omega)) (fun c2 => ?_) (fun c2 => ?_)
  · exfalso
    omega
  iterate 2 (refine tr_mv rfl (fun _ => rfl) ?_)
  exact tr_reti rfl (Or.inr (Or.inr rfl)) (K σ' h' k')
theorem ndrop {l : List Nat} (h : k < l.length) : l.drop k = l.getD k 0 :: l.drop (k + 1) := by
  rw [List.drop_eq_getElem_cons h, List.getD_eq_getElem?_getD, List.getElem?_eq_getElem h]
  rfl
theorem ntake {l : List Nat} (h : k < l.length) : l.take (k + 1) = l.take k ++ [l.getD k 0] := by
  rw [List.take_succ, List.getElem?_eq_getElem h, List.getD_eq_getElem?_getD, List.getElem?_eq_getElem h]
  rfl
theorem nget_mem {l : List Nat} (h : k < l.length) : l.getD k 0 ∈ l := by
  rw [List.getD_eq_getElem?_getD, List.getElem?_eq_getElem h]
  exact List.getElem_mem h
theorem nd_take {l : List Nat} (hn : l.Nodup) (h : k < l.length) : l.getD k 0 ∉ l.take k := by
  have h2 : (l.take (k + 1)).Nodup := hn.sublist (List.take_sublist _ _)
  rw [ntake h] at h2
  intro hm
  have := List.nodup_append.mp h2
  exact this.2.2 _ hm _ (List.mem_singleton.mpr rfl) rfl
/-- one entry looked at -/
theorem s_336_it {e s : Nat} {mn aa : Int} (h : StC σ B M ds an tx D3 o3 R3 hd en bf ws rs rd PA PB hh ww) (hA : lawA σ en) (hX : X < 3) (he : e < en.length) (hi : inE en X e = true) (hs : s.testBit e = false) (hs2 : s < 2 ^ 24)
    (hadj : prE en e = -1 ∨ prE en e = mn) (hmn : in32 mn) (haa : -1 ≤ aa) (hc : aa < colE tx en (D3 X) (o3 X) hd (tgS B M tx) hh ww X e) (hc2 : colE tx en (D3 X) (o3 X) hd (tgS B M tx) hh ww X e < 1000000)
    (K : ∀ σ', StC σ' B M ds an tx D3 o3 R3 hd en bf ws rs rd PA PB hh ww → kp4 σ σ' → Tr Ls N 336 151 [some (mP (some 2)), some (mP (some 480)), some (mP (some 481)), some (mI (en.length : Int)), some (mI (X : Int)), some (mI ((s ||| 2 ^ e : Nat) : Int)), some (mI ((k : Int) + 1)), some (mI (if prE en e = -1 then (e : Int) else mn)), some (mI (colE tx en (D3 X) (o3 X) hd (tgS B M tx) hh ww X e)), some (mI 1), some (mI (e : Int)), some (mI (colE tx en (D3 X) (o3 X) hd (tgS B M tx) hh ww X e)), v12] [] σ' post) :
    Tr Ls N 336 27 [some (mP (some 2)), some (mP (some 480)), some (mP (some 481)), some (mI (en.length : Int)), some (mI (X : Int)), some (mI (s : Int)), some (mI (k : Int)), some (mI mn), some (mI aa), some (mI 1), some (mI (e : Int)), v11, v12] [] σ post := by
  have hE := h.1.ens
  have hE24 := hE.1
  have hS := (hE.2.1 _ (enD_mem he)).2.1
  have hP : prE en e = -1 ∨ ∃ p : Nat, prE en e = (p : Int) ∧ p < en.length ∧ prE en p = -1 ∧ enS (en.getD e enD) = enS (en.getD p enD) := hE.2.2 e he
  have hPin : in32 (prE en e) := by
    rcases hP with g | ⟨p, g1, g2, -⟩ <;> omega
  have hA1 := hA.1 e he
  have eP : σ.2 480 e = prE en e := hA1.1
  iterate 1 (refine tr_mv rfl (fun _ => rfl) ?_)
  refine tr_if2 rfl (m32_of (by omega)) (fun c1 => ?_) (fun c1 => ?_)
  · exfalso
    omega
  iterate 5 (refine tr_mv rfl (fun _ => rfl) ?_)
  refine tr_vc (q := 2) rfl ⟨by decide, by decide +kernel⟩ rfl rfl rfl (q_163 h hX he hi (fun σ1 h1 k1 => ?_))
  obtain ⟨cc, hcc⟩ : ∃ cc, colE tx en (D3 X) (o3 X) hd (tgS B M tx) hh ww X e = cc := ⟨_, rfl⟩
  rw [hcc] at hc hc2 K ⊢
  have key : Tr Ls N 336 61 [some (mP (some 2)), some (mP (some 480)), some (mP (some 481)), some (mI (en.length : Int)), some (mI (X : Int)), some (mI (s : Int)), some (mI (k : Int)), some (mI mn), some (mI aa), some (mI 1), some (mI (e : Int)), some (mI cc), v12] [mI (if prE en e = -1 then (e : Int) else mn)] σ1 post := by
    have hA2 := hA.of k1
    have hmo : (if prE en e = -1 then (e : Int) else mn) = ((mnO (prE en) e : Nat) : Int) := by
      unfold mnO
      rcases hP with g | ⟨p, g1, g2, g3, g4⟩
      · rw [if_pos g, if_pos g]
      · rw [if_neg (by omega), if_neg (by omega)]
        omega
    have hml : mnO (prE en) e < en.length ∧ inE en X (mnO (prE en) e) = true ∧ mnO (prE en) (mnO (prE en) e) = mnO (prE en) e := by
      rcases hP with g | ⟨p, g1, g2, g3, g4⟩
      · have e1 : mnO (prE en) e = e := mnO_top g
        rw [e1]
        exact ⟨he, hi, e1⟩
      · have e1 : mnO (prE en) e = p := mnO_sub g1
        rw [e1]
        refine ⟨g2, ?_, mnO_top g3⟩
        unfold inE at hi ⊢
        rw [← g4]
        exact hi
    have hsd : s / 2 ^ e % 2 = 0 := by
      rw [Nat.testBit_eq_decide_div_mod_eq] at hs
      have := of_decide_eq_false hs
      omega
    have hiS : enS (en.getD e enD) / 2 ^ X % 2 = 1 := of_decide_eq_true hi
    have hlt : enS (en.getD e enD) / 2 ^ X ≤ enS (en.getD e enD) := Nat.div_le_self _ _
    have hsl : s / 2 ^ e ≤ s := Nat.div_le_self _ _
    rw [hmo] at K ⊢
    iterate 4 (refine tr_mv rfl (fun _ => rfl) ?_)
    refine tr_top (w_shr (a := s) (p := e) (by omega) (by omega)) ?_
    iterate 2 (refine tr_mv rfl (fun _ => rfl) ?_)
    refine tr_top (w_a1 (a := s / 2 ^ e) (by omega)) ?_
    rw [hsd]
    iterate 3 (refine tr_mv rfl (fun _ => rfl) ?_)
    refine tr_la (Or.inr (Or.inl rfl)) (by omega) rfl ?_
    rw [(hA2.1 e he).2.1]
    iterate 2 (refine tr_mv rfl (fun _ => rfl) ?_)
    refine tr_top (w_shr (a := enS (en.getD e enD)) (p := X) (by omega) (by omega)) ?_
    iterate 2 (refine tr_mv rfl (fun _ => rfl) ?_)
    refine tr_top (w_a1 (a := enS (en.getD e enD) / 2 ^ X) (by omega)) ?_
    rw [hiS]
    iterate 4 (refine tr_mv rfl (fun _ => rfl) ?_)
    refine tr_la (Or.inl rfl) (by omega) rfl ?_
    have eP2 : σ1.2 480 e = prE en e := (hA2.1 e he).1
    rw [eP2]
    have hfin : Tr Ls N 336 102 [some (mP (some 2)), some (mP (some 480)), some (mP (some 481)), some (mI (en.length : Int)), some (mI (X : Int)), some (mI (s : Int)), some (mI (k : Int)), some (mI ((mnO (prE en) e : Nat) : Int)), some (mI aa), some (mI 1), some (mI (e : Int)), some (mI cc), v12] [] σ1 post := by
      have hh1 := hdgE_in tx en (D3 X) (o3 X) hd (mnO (prE en) e)
      iterate 2 (refine tr_mv rfl (fun _ => rfl) ?_)
      refine tr_cmp2 rfl (m32_of (by omega)) (m32_of (by omega)) (fun c2 => ?_) (fun c2 => ?_)
      · exfalso
        omega
      iterate 3 (refine tr_mv rfl (fun _ => rfl) ?_)
      refine tr_vc (q := 2) rfl ⟨by decide, by decide +kernel⟩ rfl rfl rfl (q_158 h1 hX he hi (fun σ2 h2 k2 => ?_))
      iterate 3 (refine tr_mv rfl (fun _ => rfl) ?_)
      refine tr_vc (q := 2) rfl ⟨by decide, by decide +kernel⟩ rfl rfl rfl (q_158 h2 hX hml.1 hml.2.1 (fun σ3 h3 k3 => ?_))
      rw [hml.2.2]
      refine tr_cmp2 rfl (m32_of (by omega)) (m32_of (by omega)) (fun c3 => absurd rfl c3) (fun c3 => ?_)
      iterate 7 (refine tr_mv rfl (fun _ => rfl) ?_)
      refine tr_top (w_shl e (by omega)) ?_
      iterate 1 (refine tr_mv rfl (fun _ => rfl) ?_)
      refine tr_top (w_or (a := s) (b := 2 ^ e) (by omega) (Nat.pow_lt_pow_right (by decide) (by omega))) ?_
      iterate 4 (refine tr_mv rfl (fun _ => rfl) ?_)
      exact K σ3 h3 ((k1.tr k2).tr k3)
    refine tr_if2 rfl (m32_of hPin) (fun c2 => ?_) (fun c2 => ?_)
    · exact hfin
    · iterate 2 (refine tr_mv rfl (fun _ => rfl) ?_)
      refine tr_la (Or.inl rfl) (by omega) rfl ?_
      rw [eP2]
      iterate 1 (refine tr_mv rfl (fun _ => rfl) ?_)
      rcases hP with g | ⟨p, g1, g2, g3, g4⟩
      · exfalso
        omega
      · have e1 : mnO (prE en) e = p := mnO_sub g1
        rw [g1, e1]
        refine tr_cmp2 rfl (m32_of (by omega)) (m32_of (by omega)) (fun c3 => absurd rfl c3) (fun c3 => ?_)
        rw [← e1]
        exact hfin
  iterate 3 (refine tr_mv rfl (fun _ => rfl) ?_)
  refine tr_la (Or.inl rfl) (by omega) rfl ?_
  have eP1 : σ1.2 480 e = prE en e := ((hA.of k1).1 e he).1
  rw [eP1]
  rcases hP with g | ⟨p, g1, g2, g3, g4⟩
  · rw [if_pos g] at key
    rw [g]
    iterate 3 (refine tr_mv rfl (fun _ => rfl) ?_)
    exact key
  · rw [if_neg (by omega)] at key
    refine tr_if2 rfl (m32_of (by omega)) (fun c2 => ?_) (fun c2 => ?_)
    · iterate 1 (refine tr_mv rfl (fun _ => rfl) ?_)
      exact key
    · exfalso
      omega
theorem s_336_lp (hX : X < 3) (K : ∀ σ', StC σ' B M ds an tx D3 o3 R3 hd en bf ws rs rd PA PB hh ww → kp4 σ0 σ' → post (.inl (some (mI 1))) σ') :
    ∀ (m k s : Nat) (mn aa : Int) (σ : Sg) (v11 v12 : Option mV), StC σ B M ds an tx D3 o3 R3 hd en bf ws rs rd PA PB hh ww → kp4 σ0 σ → lawA σ en → m + k + 1 = (ordE tx en (D3 X) (o3 X) X).length → (∀ i, s.testBit i = true ↔ i ∈ (ordE tx en (D3 X) (o3 X) X).take k) → s < 2 ^ 24 →
      adjc (prE en) mn ((ordE tx en (D3 X) (o3 X) X).drop k) → in32 mn → -1 ≤ aa → aa < colE tx en (D3 X) (o3 X) hd (tgS B M tx) hh ww X ((ordE tx en (D3 X) (o3 X) X).getD k 0) →
      Tr Ls (N + 1) 336 27 [some (mP (some 2)), some (mP (some 480)), some (mP (some 481)), some (mI (en.length : Int)), some (mI (X : Int)), some (mI (s : Int)), some (mI (k : Int)), some (mI mn), some (mI aa), some (mI 1), some (mI (((ordE tx en (D3 X) (o3 X) X).getD k 0 : Nat) : Int)), v11, v12] [] σ post := by
  intro m
  induction m with
  | zero =>
    intro k s mn aa σ v11 v12 h hk hA hm hs hs2 hadj hmn haa hc
    have hE := h.1.ens
    have hkl : k < (ordE tx en (D3 X) (o3 X) X).length := by omega
    have hl24 := ordE_len (D := D3 X) (o := o3 X) hE X
    have hmem := (ordE_mem hE X).mp (nget_mem hkl)
    have hnd : (ordE tx en (D3 X) (o3 X) X).Nodup := ordL_nodup (okEn_pr hE X)
    have hcf := (colE_facts (hd := hd) hE h.1.lcs (tgS_ok (B := B) (M := M) h.1.2.2.2.1) h.1.hws.1 h.1.hws.2 hkl).1
    rw [ndrop hkl] at hadj
    have hsb : s.testBit ((ordE tx en (D3 X) (o3 X) X).getD k 0) = false := by
      cases hb : s.testBit ((ordE tx en (D3 X) (o3 X) X).getD k 0) with
      | false => rfl
      | true => exact absurd ((hs _).mp hb) (nd_take hnd hkl)
    refine s_336_it h hA hX hmem.1 hmem.2 hsb hs2 hadj.1 hmn haa hc hcf.2 (fun σ' h' k' => ?_)
    rw [show (k : Int) + 1 = ((k + 1 : Nat) : Int) by omega]
    iterate 5 (refine tr_mv rfl (fun _ => rfl) ?_)
    refine tr_stat1 rfl rfl rfl (p_9 (N := 0) h' hX (by omega) (fun σ2 g h2 k2 => ?_) (fun σ2 g => by omega))
    iterate 4 (refine tr_mv rfl (fun _ => rfl) ?_)
    exact s_336_end h2 ((hA.of k').of k2) hX (by omega) (fun σ3 h3 k3 => K σ3 h3 (((hk.tr k').tr k2).tr k3))
  | succ m ih =>
    intro k s mn aa σ v11 v12 h hk hA hm hs hs2 hadj hmn haa hc
    have hE := h.1.ens
    have hkl : k < (ordE tx en (D3 X) (o3 X) X).length := by omega
    have hl24 := ordE_len (D := D3 X) (o := o3 X) hE X
    have hmem := (ordE_mem hE X).mp (nget_mem hkl)
    have hE24 := hE.1
    have hnd : (ordE tx en (D3 X) (o3 X) X).Nodup := ordL_nodup (okEn_pr hE X)
    have hcf := colE_facts (hd := hd) hE h.1.lcs (tgS_ok (B := B) (M := M) h.1.2.2.2.1) h.1.hws.1 h.1.hws.2 hkl
    have hcf2 := hcf.1.1
    rw [ndrop hkl] at hadj
    have hsb : s.testBit ((ordE tx en (D3 X) (o3 X) X).getD k 0) = false := by
      cases hb : s.testBit ((ordE tx en (D3 X) (o3 X) X).getD k 0) with
      | false => rfl
      | true => exact absurd ((hs _).mp hb) (nd_take hnd hkl)
    refine s_336_it h hA hX hmem.1 hmem.2 hsb hs2 hadj.1 hmn haa hc hcf.1.2 (fun σ' h' k' => ?_)
    rw [show (k : Int) + 1 = ((k + 1 : Nat) : Int) by omega]
    iterate 5 (refine tr_mv rfl (fun _ => rfl) ?_)
    refine tr_stat rfl rfl rfl (p_9v h' hX (by omega) (by omega) (fun σ2 h2 k2 => ?_))
    iterate 2 (refine tr_mv rfl (fun _ => rfl) ?_)
    have hs' := or_seen (s := s) (e := (ordE tx en (D3 X) (o3 X) X).getD k 0) hs
    rw [← ntake hkl] at hs'
    refine ih (k + 1) _ _ _ σ2 _ _ h2 ((hk.tr k').tr k2) ((hA.of k').of k2) (by omega) hs' (Nat.or_lt_two_pow hs2 (Nat.pow_lt_pow_right (by decide) (by omega))) hadj.2 ?_ (by omega) (hcf.2 (by omega))
    split
    · omega
    · exact hmn
theorem s_336 (h : StC σ B M ds an tx D3 o3 R3 hd en bf ws rs rd PA PB hh ww) (hA : lawA σ en) (hX : X < 3) (K : ∀ σ', StC σ' B M ds an tx D3 o3 R3 hd en bf ws rs rd PA PB hh ww → kp4 σ σ' → post (.inl (some (mI 1))) σ') : Tr Ls (N + 1) 336 0 [some (mP (some 2)), some (mP (some 480)), some (mP (some 481)), some (mI (en.length : Int)), some (mI (X : Int)), none, none, none, none, none, none, none, none] [] σ post := by
  have hE := h.1.ens
  iterate 15 (refine tr_mv rfl (fun _ => rfl) ?_)
  by_cases c : 0 < (ordE tx en (D3 X) (o3 X) X).length
  · refine tr_stat rfl rfl rfl (p_9v (j := 0) h hX (by omega) c (fun σ2 h2 k2 => ?_))
    iterate 1 (refine tr_mv rfl (fun _ => rfl) ?_)
    have hcf := colE_facts (hd := hd) hE h.1.lcs (tgS_ok (B := B) (M := M) h.1.2.2.2.1) h.1.hws.1 h.1.hws.2 c
    have hcf2 := hcf.1.1
    exact s_336_lp hX K ((ordE tx en (D3 X) (o3 X) X).length - 1) 0 0 (-1) (-1) σ2 none none h2 k2 (hA.of k2) (by omega) (fun i => by simp) (by decide) (by rw [List.drop_zero]; exact adjc_ord (-1)) (by omega) (by omega) (by omega)
  · refine tr_stat1 rfl rfl rfl (p_9 (j := 0) (N := 0) h hX (by omega) (fun σ2 g h2 k2 => ?_) (fun σ2 g => absurd g c))
    iterate 3 (refine tr_mv rfl (fun _ => rfl) ?_)
    exact s_336_end (k := 0) h2 (hA.of k2) hX (by omega) (fun σ3 h3 k3 => K σ3 h3 (k2.tr k3))
end IDX
