/-! The law's isCompared: the keys' bytes. -/
section COMP2
variable {Ls N k pc n a b d X j : Nat} {L : mLs} {r : List mV} {σ σ' σ0 σ1 σ2 : Sg} {post : tP} {i x y z v w s c : Int} {B M : Int → Int} {ds an dA t A A2 : List Int} {ws rs PA PB : List Int} {tx : List (List Int)} {D3 : Nat → TD} {o3 : Nat → Nat → Int} {R3 : Nat → RuT} {hd : Nat → Int} {en : List EnT} {bf : Nat → List Nat} {rd : Nat → List Int} {hh ww : Int} {v4 v5 v6 v7 v8 v9 v10 : Option mV}
/-- the last question: which byte is the lesser one -/
theorem s_334_end (h : StC σ B M ds an tx D3 o3 R3 hd en bf ws rs rd PA PB hh ww) (hX : X < 3) (ha : a < tx.length) (hb : b < tx.length) (h14 : 1 ≤ d ∧ d ≤ 4) (hk : k < 300) (hc : -1 ≤ c ∧ c ≤ 1)
    (hA : (∀ x ∈ keyOf (D3 X) (o3 X) d (tx.getD a []), in32 x) ∧ ∀ x ∈ keyOf (D3 X) (o3 X) d (tx.getD b []), in32 x)
    (hf : (c = 0 ∧ rget (keyOf (D3 X) (o3 X) d (tx.getD a [])) (k : Int) = -1 ∧ rget (keyOf (D3 X) (o3 X) d (tx.getD b [])) (k : Int) = -1) ∨ (c = -1 ∧ rget (keyOf (D3 X) (o3 X) d (tx.getD a [])) (k : Int) < rget (keyOf (D3 X) (o3 X) d (tx.getD b [])) (k : Int)) ∨ (c = 1 ∧ rget (keyOf (D3 X) (o3 X) d (tx.getD b [])) (k : Int) < rget (keyOf (D3 X) (o3 X) d (tx.getD a [])) (k : Int)))
    (K : ∀ σ', StC σ' B M ds an tx D3 o3 R3 hd en bf ws rs rd PA PB hh ww → kp4 σ σ' → post (.inl (some (mI 1))) σ') :
    Tr Ls N 334 182 [some (mP (some 2)), some (mI (X : Int)), some (mI (a : Int)), some (mI (b : Int)), v4, some (mI 1), some (mI (k : Int)), some (mI (d : Int)), some (mI c), v9, v10] [] σ post := by
  iterate 5 (refine tr_mv rfl (fun _ => rfl) ?_)
  refine tr_vc (q := 2) rfl ⟨by decide, by decide +kernel⟩ rfl rfl rfl (q_152 h hX ha h14 (by omega) (by omega) (fun σ1 h1 k1 => ?_))
  iterate 6 (refine tr_mv rfl (fun _ => rfl) ?_)
  refine tr_vc (q := 2) rfl ⟨by decide, by decide +kernel⟩ rfl rfl rfl (q_152 h1 hX hb h14 (by omega) (by omega) (fun σ2 h2 k2 => ?_))
  have i1 := rget_in hA.1 (k : Int)
  have i2 := rget_in hA.2 (k : Int)
  have hK := K σ2 h2 (k1.tr k2)
  generalize rget (keyOf (D3 X) (o3 X) d (tx.getD a [])) (k : Int) = x at *
  generalize rget (keyOf (D3 X) (o3 X) d (tx.getD b [])) (k : Int) = y at *
  iterate 4 (refine tr_mv rfl (fun _ => rfl) ?_)
  refine tr_if2 rfl (m32_of (by omega)) (fun c1 => ?_) (fun c1 => ?_)
  · iterate 1 (refine tr_mv rfl (fun _ => rfl) ?_)
    refine tr_if2 rfl (m32_of (by omega)) (fun c2 => ?_) (fun c2 => ?_)
    · iterate 2 (refine tr_mv rfl (fun _ => rfl) ?_)
      refine tr_cmp2 rfl (m32_of (by omega)) (m32_of (by omega)) (fun c3 => ?_) (fun c3 => ?_)
      · exfalso
        omega
      · iterate 2 (refine tr_mv rfl (fun _ => rfl) ?_)
        exact tr_reti rfl (Or.inr (Or.inr rfl)) hK
    · iterate 2 (refine tr_mv rfl (fun _ => rfl) ?_)
      refine tr_cmp2 rfl (m32_of (by omega)) (m32_of (by omega)) (fun c3 => ?_) (fun c3 => ?_)
      · exfalso
        omega
      · iterate 3 (refine tr_mv rfl (fun _ => rfl) ?_)
        exact tr_reti rfl (Or.inr (Or.inr rfl)) hK
  · iterate 2 (refine tr_mv rfl (fun _ => rfl) ?_)
    refine tr_cmp2 rfl (m32_of (by omega)) (m32_of (by omega)) (fun c2 => ?_) (fun c2 => ?_)
    · exfalso
      omega
    iterate 2 (refine tr_mv rfl (fun _ => rfl) ?_)
    refine tr_cmp2 rfl (m32_of (by omega)) (m32_of (by omega)) (fun c3 => ?_) (fun c3 => ?_)
    · exfalso
      omega
    iterate 3 (refine tr_mv rfl (fun _ => rfl) ?_)
    exact tr_reti rfl (Or.inr (Or.inr rfl)) hK
/-- byte by byte -/
theorem s_334_lp (hX : X < 3) (ha : a < tx.length) (hb : b < tx.length) (h14 : 1 ≤ d ∧ d ≤ 4) (hc : -1 ≤ c ∧ c ≤ 1)
    (hA : (∀ x ∈ keyOf (D3 X) (o3 X) d (tx.getD a []), 1 ≤ x ∧ in32 x) ∧ ∀ x ∈ keyOf (D3 X) (o3 X) d (tx.getD b []), 1 ≤ x ∧ in32 x) (hl : (keyOf (D3 X) (o3 X) d (tx.getD a [])).length ≤ 204)
    (K : ∀ σ', StC σ' B M ds an tx D3 o3 R3 hd en bf ws rs rd PA PB hh ww → kp4 σ0 σ' → post (.inl (some (mI 1))) σ') :
    ∀ (m k : Nat) (σ : Sg), StC σ B M ds an tx D3 o3 R3 hd en bf ws rs rd PA PB hh ww → kp4 σ0 σ → m + k = (keyOf (D3 X) (o3 X) d (tx.getD a [])).length → cmpL ((keyOf (D3 X) (o3 X) d (tx.getD a [])).drop k) ((keyOf (D3 X) (o3 X) d (tx.getD b [])).drop k) = c →
    Tr Ls N 334 127 [some (mP (some 2)), some (mI (X : Int)), some (mI (a : Int)), some (mI (b : Int)), v4, some (mI 1), some (mI (k : Int)), some (mI (d : Int)), some (mI c), v9, v10] [] σ post := by
  intro m
  induction m with
  | zero =>
    intro k σ h hk hm he
    have hat := cmp_at k (fun x hx => (hA.1 x hx).1) (fun x hx => (hA.2 x hx).1) he
    have hout := rg_out (k := k) (l := keyOf (D3 X) (o3 X) d (tx.getD a [])) (by omega)
    iterate 4 (refine tr_mv rfl (fun _ => rfl) ?_)
    refine tr_cmp2 rfl (m32_of (by omega)) (m32_of (by omega)) (fun c1 => ?_) (fun c1 => ?_)
    · exfalso
      omega
    iterate 5 (refine tr_mv rfl (fun _ => rfl) ?_)
    refine tr_vc (q := 2) rfl ⟨by decide, by decide +kernel⟩ rfl rfl rfl (q_152 h hX ha h14 (by omega) (by omega) (fun σ1 h1 k1 => ?_))
    iterate 5 (refine tr_mv rfl (fun _ => rfl) ?_)
    refine tr_vc (q := 2) rfl ⟨by decide, by decide +kernel⟩ rfl rfl rfl (q_152 h1 hX hb h14 (by omega) (by omega) (fun σ2 h2 k2 => ?_))
    have hf := hat.2 (Or.inr (by rw [hout]; decide))
    have i2 := rget_in (fun x hx => (hA.2 x hx).2) (k : Int)
    refine tr_cmp2 rfl (m32_of (by rw [hout]; omega)) (m32_of i2) (fun c2 => ?_) (fun c2 => ?_)
    · exact s_334_end h2 hX ha hb h14 (by omega) hc ⟨fun x hx => (hA.1 x hx).2, fun x hx => (hA.2 x hx).2⟩ hf (fun σ' h' k' => K σ' h' (((hk.tr k1).tr k2).tr k'))
    · iterate 5 (refine tr_mv rfl (fun _ => rfl) ?_)
      refine tr_vc (q := 2) rfl ⟨by decide, by decide +kernel⟩ rfl rfl rfl (q_152 h2 hX ha h14 (by omega) (by omega) (fun σ3 h3 k3 => ?_))
      rw [hout]
      iterate 1 (refine tr_mv rfl (fun _ => rfl) ?_)
      exact s_334_end h3 hX ha hb h14 (by omega) hc ⟨fun x hx => (hA.1 x hx).2, fun x hx => (hA.2 x hx).2⟩ hf (fun σ' h' k' => K σ' h' ((((hk.tr k1).tr k2).tr k3).tr k'))
  | succ m ih =>
    intro k σ h hk hm he
    have hat := cmp_at k (fun x hx => (hA.1 x hx).1) (fun x hx => (hA.2 x hx).1) he
    have hin := rg_in (k := k) (l := keyOf (D3 X) (o3 X) d (tx.getD a [])) (by omega)
    have hpos := (hA.1 _ (getD_mem (l := keyOf (D3 X) (o3 X) d (tx.getD a [])) (p := k) (by omega))).1
    rw [← hin] at hpos
    iterate 4 (refine tr_mv rfl (fun _ => rfl) ?_)
    refine tr_cmp2 rfl (m32_of (by omega)) (m32_of (by omega)) (fun c1 => ?_) (fun c1 => ?_)
    · exfalso
      omega
    iterate 5 (refine tr_mv rfl (fun _ => rfl) ?_)
    refine tr_vc (q := 2) rfl ⟨by decide, by decide +kernel⟩ rfl rfl rfl (q_152 h hX ha h14 (by omega) (by omega) (fun σ1 h1 k1 => ?_))
    iterate 5 (refine tr_mv rfl (fun _ => rfl) ?_)
    refine tr_vc (q := 2) rfl ⟨by decide, by decide +kernel⟩ rfl rfl rfl (q_152 h1 hX hb h14 (by omega) (by omega) (fun σ2 h2 k2 => ?_))
    have i1 := rget_in (fun x hx => (hA.1 x hx).2) (k : Int)
    have i2 := rget_in (fun x hx => (hA.2 x hx).2) (k : Int)
    refine tr_cmp2 rfl (m32_of i1) (m32_of i2) (fun c2 => ?_) (fun c2 => ?_)
    · exact s_334_end h2 hX ha hb h14 (by omega) hc ⟨fun x hx => (hA.1 x hx).2, fun x hx => (hA.2 x hx).2⟩ (hat.2 (Or.inl c2)) (fun σ' h' k' => K σ' h' (((hk.tr k1).tr k2).tr k'))
    · iterate 5 (refine tr_mv rfl (fun _ => rfl) ?_)
      refine tr_vc (q := 2) rfl ⟨by decide, by decide +kernel⟩ rfl rfl rfl (q_152 h2 hX ha h14 (by omega) (by omega) (fun σ3 h3 k3 => ?_))
      refine tr_if2 rfl (m32_of i1) (fun c3 => ?_) (fun c3 => ?_)
      · exfalso
        exact absurd c3 (by show ¬ _ < (0 : Int); omega)
      · iterate 2 (refine tr_mv rfl (fun _ => rfl) ?_)
        have := ih (k + 1) σ3 h3 (((hk.tr k1).tr k2).tr k3) (by omega) (hat.1 (Decidable.of_not_not c2) (by omega)).2
        rw [show ((k + 1 : Nat) : Int) = (k : Int) + 1 by omega] at this
        exact this
theorem s_334_hi (h : StC σ B M ds an tx D3 o3 R3 hd en bf ws rs rd PA PB hh ww) (hX : X < 3) (ha : a < tx.length) (hb : b < tx.length) (h34 : 1 ≤ d ∧ d ≤ 4) (hTa : okT (tx.getD a [])) (K : ∀ σ', StC σ' B M ds an tx D3 o3 R3 hd en bf ws rs rd PA PB hh ww → kp4 σ σ' → post (.inl (some (mI 1))) σ') :
    Tr Ls N 334 114 [some (mP (some 2)), some (mI (X : Int)), some (mI (a : Int)), some (mI (b : Int)), v4, some (mI 1), some (mI 0), v7, v8, v9, v10] [mI (d : Int)] σ post := by
  obtain ⟨t1, t2, t3⟩ := okTx_get h.1.2.2.2.1 ha
  obtain ⟨u1, u2, u3⟩ := okTx_get h.1.2.2.2.1 hb
  have hD := (h.2.2.2.2.1.1 X hX).1
  iterate 6 (refine tr_mv rfl (fun _ => rfl) ?_)
  refine tr_vc (q := 2) rfl ⟨by decide, by decide +kernel⟩ rfl rfl rfl (q_153 h hX ha hb h34 (fun σ1 h1 k1 => ?_))
  have hp1 := keyOf_pos (o := o3 X) (d := d) hD t1 (by omega)
  have hp2 := keyOf_pos (o := o3 X) (d := d) hD u1 (by omega)
  have hs := s_334_lp (Ls := Ls) (N := N) (v4 := v4) (v9 := v9) (v10 := v10) (σ0 := σ) (post := post) hX ha hb h34 (c := cmpL (keyOf (D3 X) (o3 X) d (tx.getD a [])) (keyOf (D3 X) (o3 X) d (tx.getD b []))) (by rcases cmpL_in (keyOf (D3 X) (o3 X) d (tx.getD a [])) (keyOf (D3 X) (o3 X) d (tx.getD b [])) with e | e | e <;> rw [e] <;> decide)
    ⟨fun x hx => ⟨(hp1 x hx).1, by have := hp1 x hx; omega⟩, fun x hx => ⟨(hp2 x hx).1, by have := hp2 x hx; omega⟩⟩ (keyOf_len hTa h34.2) K _ 0 σ1 h1 k1 (Nat.add_zero _) rfl
  iterate 1 (refine tr_mv rfl (fun _ => rfl) ?_)
  exact hs
theorem s_334 (h : StC σ B M ds an tx D3 o3 R3 hd en bf ws rs rd PA PB hh ww) (hX : X < 3) (ha : a < tx.length) (hb : b < tx.length) (hTa : okT (tx.getD a [])) (K : ∀ σ', StC σ' B M ds an tx D3 o3 R3 hd en bf ws rs rd PA PB hh ww → kp4 σ σ' → post (.inl (some (mI 1))) σ') : Tr Ls N 334 0 [some (mP (some 2)), some (mI (X : Int)), some (mI (a : Int)), some (mI (b : Int)), none, none, none, none, none, none, none] [] σ post := by
  obtain ⟨t1, t2, t3⟩ := okTx_get h.1.2.2.2.1 ha
  obtain ⟨u1, u2, u3⟩ := okTx_get h.1.2.2.2.1 hb
  have hD := (h.2.2.2.2.1.1 X hX).1
  have hup : ∀ d, cT tx (D3 X) (o3 X) d a b = 0 ∨ cT tx (D3 X) (o3 X) d a b = cT tx (D3 X) (o3 X) (d + 1) a b := fun d => by
    by_cases c : cT tx (D3 X) (o3 X) d a b = 0
    · exact Or.inl c
    · exact Or.inr (cmp_up hD t1 (by omega) u1 (by omega) c).symm
  iterate 6 (refine tr_mv rfl (fun _ => rfl) ?_)
  refine s_334_it (d := 1) h hX ha hb (by omega) (Or.inl rfl) (fun σ1 h1 k1 => ?_)
  refine s_334_it (d := 2) h1 hX ha hb (by omega) (hup 1) (fun σ2 h2 k2 => ?_)
  refine s_334_it (d := 3) h2 hX ha hb (by omega) (hup 2) (fun σ3 h3 k3 => ?_)
  refine s_334_it (d := 4) h3 hX ha hb (by omega) (hup 3) (fun σ4 h4 k4 => ?_)
  have hc := cT_in tx (D3 X) (o3 X) 4 a b
  generalize cT tx (D3 X) (o3 X) 4 a b = c at *
  iterate 6 (refine tr_mv rfl (fun _ => rfl) ?_)
  refine tr_if2 rfl (m32_of (by omega)) (fun c1 => ?_) (fun c1 => ?_)
  · iterate 1 (refine tr_mv rfl (fun _ => rfl) ?_)
    exact s_334_hi (d := 3) h4 hX ha hb (by omega) hTa (fun σ' h' k' => K σ' h' ((((k1.tr k2).tr k3).tr k4).tr k'))
  · iterate 2 (refine tr_mv rfl (fun _ => rfl) ?_)
    exact s_334_hi (d := 4) h4 hX ha hb (by omega) hTa (fun σ' h' k' => K σ' h' ((((k1.tr k2).tr k3).tr k4).tr k'))
end COMP2
