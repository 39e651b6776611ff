/-! The law's isText. -/
/-- the class of the mark ahead of the place k, or none -/
def lk (t : List Int) (k : Nat) : Int := if k = 0 then -1 else if clsOf (t.getD (k - 1) 0) = 0 then -1 else clsOf (t.getD (k - 1) 0)
section TEXT
variable {Ls N k pc n a b d X j : Nat} {L : mLs} {r : List mV} {σ σ' σ0 σ1 σ2 : Sg} {post : tP} {i x y z v w s : Int} {B M : Int → Int} {ds an dA t : List Int} {ws rs PA PB : List Int} {tx : List (List Int)} {D3 : Nat → TD} {o3 : Nat → Nat → Int} {R3 : Nat → RuT} {hd : Nat → Int} {en : List EnT} {bf : Nat → List Nat} {rd : Nat → List Int} {hh ww : Int} {v5 v6 v7 : Option mV}
theorem rg_in {l : List Int} (h : k < l.length) : rget l (k : Int) = l.getD k 0 := by
  unfold rget
  rw [if_pos (by omega)]
  congr 1
theorem rg_out {l : List Int} (h : ¬ k < l.length) : rget l (k : Int) = -1 := by
  unfold rget
  rw [if_neg (by omega)]
theorem lk_succ : lk t (k + 1) = if clsOf (t.getD k 0) = 0 then -1 else clsOf (t.getD k 0) := by
  unfold lk
  rw [if_neg (Nat.succ_ne_zero k), Nat.add_sub_cancel]
abbrev sg48 (s : Int) : Prop := 0 ≤ s ∧ s < 48
theorem tog_mem {F : Int → Int → Int} (hF : ∀ c m, F c m ≠ -1 → sg48 (F c m)) : ∀ (xs : List Int), (∀ s ∈ xs, sg48 s) → (∀ s ∈ tog F none xs, sg48 s) ∧ ∀ (c mo : Int) (acc : List Int), sg48 c → (∀ s ∈ acc, sg48 s) → ∀ s ∈ tog F (some (c, mo, acc)) xs, sg48 s := by
  intro xs
  induction xs with
  | nil =>
    intro _
    refine ⟨fun s hs => ?_, fun c mo acc hc hacc s hs => ?_⟩
    · unfold tog at hs
      cases hs
    · unfold tog at hs
      rcases List.mem_cons.mp hs with e | hs
      · rw [e]
        exact hc
      · exact hacc s hs
  | cons x xs ih =>
    intro h
    have hx := h x List.mem_cons_self
    obtain ⟨i1, i2⟩ := ih (fun s hs => h s (List.mem_cons_of_mem _ hs))
    have hn : ∀ s, s ∈ ([] : List Int) → sg48 s := fun s hs => by cases hs
    refine ⟨fun s hs => ?_, fun c mo acc hc hacc s hs => ?_⟩
    · unfold tog at hs
      split at hs
      · exact i2 x 0 [] hx hn s hs
      · rcases List.mem_cons.mp hs with e | hs
        · rw [e]
          exact hx
        · exact i1 s hs
    · unfold tog at hs
      split at hs
      · split at hs
        · rename_i g
          exact i2 _ mo acc (hF c x g.2) hacc s hs
        · refine i2 c _ (acc ++ [x]) hc (fun y hy => ?_) s hs
          rcases List.mem_append.mp hy with hy | hy
          · exact hacc y hy
          · rw [List.mem_singleton.mp hy]
            exact hx
      · split at hs
        · rcases List.mem_append.mp hs with hs | hs
          · rcases List.mem_cons.mp hs with e | hs
            · rw [e]
              exact hc
            · exact hacc s hs
          · exact i2 x 0 [] hx hn s hs
        · rcases List.mem_append.mp hs with hs | hs
          · rcases List.mem_cons.mp hs with e | hs
            · rw [e]
              exact hc
            · exact hacc s hs
          · rcases List.mem_cons.mp hs with e | hs
            · rw [e]
              exact hx
            · exact i1 s hs
theorem s_333_kd (hs : 0 ≤ s ∧ s < 40) (K : Tr Ls N 333 76 [some (mP (some 2)), some (mI x), some (mI y), some (mI 0), some (mI 1), some (mI z), some (mI s), v7] [mI (clsOf s)] σ post) : Tr Ls N 333 35 [some (mP (some 2)), some (mI x), some (mI y), some (mI 0), some (mI 1), some (mI z), some (mI s), v7] [] σ post := by
  iterate 2 (refine tr_mv rfl (fun _ => rfl) ?_)
  refine tr_cmp2 rfl (m32_of (by omega)) (m32_of (by omega)) (fun c => ?_) (fun c => ?_)
  · iterate 2 (refine tr_mv rfl (fun _ => rfl) ?_)
    refine tr_cmp2 rfl (m32_of (by omega)) (m32_of (by omega)) (fun c2 => ?_) (fun c2 => ?_)
    · iterate 2 (refine tr_mv rfl (fun _ => rfl) ?_)
      refine tr_cmp2 rfl (m32_of (by omega)) (m32_of (by omega)) (fun c3 => ?_) (fun c3 => ?_)
      · have e : clsOf s = 1 := by
          unfold clsOf
          rw [if_pos (by omega), if_pos (by omega)]
        rw [e] at K
        iterate 2 (refine tr_mv rfl (fun _ => rfl) ?_)
        exact K
      · iterate 2 (refine tr_mv rfl (fun _ => rfl) ?_)
        refine tr_cmp2 rfl (m32_of (by omega)) (m32_of (by omega)) (fun c4 => ?_) (fun c4 => ?_)
        · have e : clsOf s = 0 := by
            unfold clsOf
            rw [if_neg (by omega)]
          rw [e] at K
          iterate 1 (refine tr_mv rfl (fun _ => rfl) ?_)
          exact K
        · have e : clsOf s = 1 := by
            unfold clsOf
            rw [if_pos (by omega), if_pos (by omega)]
          rw [e] at K
          iterate 2 (refine tr_mv rfl (fun _ => rfl) ?_)
          exact K
    · have e : clsOf s = 2 := by
        unfold clsOf
        rw [if_pos (by omega), if_neg (by omega)]
        omega
      rw [e] at K
      iterate 2 (refine tr_mv rfl (fun _ => rfl) ?_)
      exact K
  · have e : clsOf s = 3 := by
      unfold clsOf
      rw [if_pos (by omega), if_neg (by omega)]
      omega
    rw [e] at K
    iterate 2 (refine tr_mv rfl (fun _ => rfl) ?_)
    exact K
theorem s_333_a (h : StC σ B M ds an tx D3 o3 R3 hd en bf ws rs rd PA PB hh ww) (ha : a < tx.length) (hT : okT (tx.getD a [])) (K : ∀ v5 v6 v7, Tr Ls N 333 128 [some (mP (some 2)), some (mI (a : Int)), some (mI ((tx.getD a []).length : Int)), some (mI 0), some (mI 1), v5, v6, v7] [] σ post) :
    ∀ (m k : Nat) (v6 v7 : Option mV), m + k = (tx.getD a []).length → Tr Ls N 333 10 [some (mP (some 2)), some (mI (a : Int)), some (mI (k : Int)), some (mI 0), some (mI 1), some (mI (lk (tx.getD a []) k)), v6, v7] [] σ post := by
  obtain ⟨t1, t2, t3⟩ := okTx_get h.1.2.2.2.1 ha
  intro m
  induction m with
  | zero =>
    intro k v6 v7 hk
    iterate 2 (refine tr_mv rfl (fun _ => rfl) ?_)
    refine tr_cmp2 rfl (m32_of (by omega)) (m32_of (by omega)) (fun c => ?_) (fun c => ?_)
    · exfalso
      omega
    iterate 4 (refine tr_mv rfl (fun _ => rfl) ?_)
    refine tr_vc (q := 2) rfl ⟨by decide, by decide +kernel⟩ rfl rfl rfl (q_148a h ha (by omega) (by omega) ?_)
    rw [rg_out (by omega)]
    iterate 1 (refine tr_mv rfl (fun _ => rfl) ?_)
    rw [show k = (tx.getD a []).length by omega]
    exact K _ _ _
  | succ m ih =>
    intro k v6 v7 hk
    have hs : 0 ≤ (tx.getD a []).getD k 0 ∧ (tx.getD a []).getD k 0 < 40 := by
      refine h.1.2.2.2.1.2 (tx.getD a []) ?_ |>.1 _ ?_
      · rw [List.getD_eq_getElem?_getD, List.getElem?_eq_getElem ha]
        exact List.getElem_mem ha
      · exact getD_mem (by omega)
    iterate 2 (refine tr_mv rfl (fun _ => rfl) ?_)
    refine tr_cmp2 rfl (m32_of (by omega)) (m32_of (by omega)) (fun c => ?_) (fun c => ?_)
    · exfalso
      omega
    iterate 4 (refine tr_mv rfl (fun _ => rfl) ?_)
    refine tr_vc (q := 2) rfl ⟨by decide, by decide +kernel⟩ rfl rfl rfl (q_148a h ha (by omega) (by omega) ?_)
    rw [rg_in (by omega)]
    refine tr_if2 rfl (m32_of (by omega)) (fun c2 => ?_) (fun c2 => ?_)
    · exfalso
      omega
    iterate 4 (refine tr_mv rfl (fun _ => rfl) ?_)
    refine tr_vc (q := 2) rfl ⟨by decide, by decide +kernel⟩ rfl rfl rfl (q_148a h ha (by omega) (by omega) ?_)
    rw [rg_in (by omega)]
    iterate 1 (refine tr_mv rfl (fun _ => rfl) ?_)
    refine s_333_kd hs ?_
    have hlk := lk_succ (t := tx.getD a []) (k := k)
    have hcl := clsOf_in ((tx.getD a []).getD k 0)
    have hor : clsOf ((tx.getD a []).getD k 0) = 0 ∨ lk (tx.getD a []) k ≤ clsOf ((tx.getD a []).getD k 0) := by
      match k with
      | 0 =>
        right
        show (-1 : Int) ≤ _
        omega
      | k + 1 =>
        rcases okT_get (k := k) hT (by omega) with g | g
        · exact Or.inl g
        · right
          rw [lk_succ]
          split
          · omega
          · exact g
    have hin : in32 (lk (tx.getD a []) k) := by
      match k with
      | 0 =>
        show in32 (-1 : Int)
        omega
      | k + 1 =>
        have := clsOf_in ((tx.getD a []).getD k 0)
        rw [lk_succ]
        split <;> omega
    have hnx := ih (k + 1)
    rw [show ((k + 1 : Nat) : Int) = (k : Int) + 1 by omega] at hnx
    rw [hlk] at hnx
    iterate 5 (refine tr_mv rfl (fun _ => rfl) ?_)
    refine tr_cmp2 rfl (m32_of (by omega)) (m32_of (by omega)) (fun c3 => ?_) (fun c3 => ?_)
    · exfalso
      omega
    iterate 1 (refine tr_mv rfl (fun _ => rfl) ?_)
    refine tr_if2 rfl (m32_of (by omega)) (fun c4 => ?_) (fun c4 => ?_)
    · iterate 4 (refine tr_mv rfl (fun _ => rfl) ?_)
      refine tr_if2 rfl (m32_of (by omega)) (fun c5 => ?_) (fun c5 => ?_)
      · exfalso
        omega
      iterate 5 (refine tr_mv rfl (fun _ => rfl) ?_)
      rw [if_pos c4] at hnx
      exact hnx _ _ (by omega)
    · iterate 2 (refine tr_mv rfl (fun _ => rfl) ?_)
      refine tr_cmp2 rfl (m32_of (by omega)) (m32_of (by omega)) (fun c5 => ?_) (fun c5 => ?_)
      · exfalso
        omega
      iterate 4 (refine tr_mv rfl (fun _ => rfl) ?_)
      refine tr_if2 rfl (m32_of (by omega)) (fun c6 => ?_) (fun c6 => ?_)
      · iterate 4 (refine tr_mv rfl (fun _ => rfl) ?_)
        rw [if_neg c4] at hnx
        exact hnx _ _ (by omega)
      · exfalso
        omega
theorem s_333_b (ha : a < tx.length) (hT : okT (tx.getD a [])) (hB : okTx tx) (K : ∀ σ', StC σ' B M ds an tx D3 o3 R3 hd en bf ws rs rd PA PB hh ww → kp4 σ0 σ' → post (.inl (some (mI 1))) σ') :
    ∀ (m j : Nat) (σ : Sg) (v5 v6 v7 : Option mV), StC σ B M ds an tx D3 o3 R3 hd en bf ws rs rd PA PB hh ww → kp4 σ0 σ → m + j = (tgS B M tx a).length → Tr Ls N 333 128 [some (mP (some 2)), some (mI (a : Int)), some (mI ((tx.getD a []).length : Int)), some (mI (j : Int)), some (mI 1), v5, v6, v7] [] σ post := by
  obtain ⟨t1, t2, t3⟩ := okTx_get hB ha
  obtain ⟨g1, g2, -⟩ := tog_len (cof B M) (tx.getD a [])
  have g3 := g2 (fun e => by rw [e] at t2; simp at t2)
  have e9 : (tgS B M tx a).length = (tog (cof B M) none (tx.getD a [])).length := rfl
  intro m
  induction m with
  | zero =>
    intro j σ v5 v6 v7 h hk hj
    iterate 2 (refine tr_mv rfl (fun _ => rfl) ?_)
    refine tr_cmp2 rfl (m32_of (by omega)) (m32_of (by omega)) (fun c => ?_) (fun c => ?_)
    · exfalso
      omega
    iterate 4 (refine tr_mv rfl (fun _ => rfl) ?_)
    refine tr_vc (q := 2) rfl ⟨by decide, by decide +kernel⟩ rfl rfl rfl (q_148t h ha (by omega) (by omega) (fun σ' h' k' => ?_))
    rw [rg_out (by omega)]
    iterate 4 (refine tr_mv rfl (fun _ => rfl) ?_)
    refine tr_if2 rfl (m32_of (by omega)) (fun c2 => ?_) (fun c2 => ?_)
    · exfalso
      omega
    iterate 2 (refine tr_mv rfl (fun _ => rfl) ?_)
    refine tr_cmp2 rfl (m32_of (by omega)) (m32_of (by omega)) (fun c3 => ?_) (fun c3 => ?_)
    · exfalso
      omega
    iterate 2 (refine tr_mv rfl (fun _ => rfl) ?_)
    refine tr_cmp2 rfl (m32_of (by omega)) (m32_of (by omega)) (fun c4 => ?_) (fun c4 => ?_)
    · exfalso
      omega
    iterate 2 (refine tr_mv rfl (fun _ => rfl) ?_)
    exact tr_reti rfl (Or.inr (Or.inr rfl)) (K σ' h' (hk.tr k'))
  | succ m ih =>
    intro j σ v5 v6 v7 h hk hj
    iterate 2 (refine tr_mv rfl (fun _ => rfl) ?_)
    refine tr_cmp2 rfl (m32_of (by omega)) (m32_of (by omega)) (fun c => ?_) (fun c => ?_)
    · exfalso
      omega
    iterate 4 (refine tr_mv rfl (fun _ => rfl) ?_)
    refine tr_vc (q := 2) rfl ⟨by decide, by decide +kernel⟩ rfl rfl rfl (q_148t h ha (by omega) (by omega) (fun σ' h' k' => ?_))
    rw [rg_in (by omega)]
    have hs : 0 ≤ (tgS B M tx a).getD j 0 ∧ in32 ((tgS B M tx a).getD j 0) := by
      have hm : (tgS B M tx a).getD j 0 ∈ tog (cof B M) none (tx.getD a []) := getD_mem (l := tgS B M tx a) (by omega)
      have := (tog_mem (F := cof B M) (fun c m g => by
        rcases cof_or B M c m with e | e
        · exact absurd e g
        · exact ⟨by omega, by omega⟩) (tx.getD a []) (fun s hs => by
        have := t1 s hs
        exact ⟨by omega, by omega⟩)).1 _ hm
      exact ⟨this.1, by omega, by omega⟩
    refine tr_if2 rfl (m32_of (by omega)) (fun c2 => ?_) (fun c2 => ?_)
    · exfalso
      omega
    iterate 2 (refine tr_mv rfl (fun _ => rfl) ?_)
    have := ih (j + 1) σ' v5 v6 v7 h' (hk.tr k') (by omega)
    rw [show ((j + 1 : Nat) : Int) = (j : Int) + 1 by omega] at this
    exact this
theorem s_333 (h : StC σ B M ds an tx D3 o3 R3 hd en bf ws rs rd PA PB hh ww) (ha : a < tx.length) (hT : okT (tx.getD a [])) (K : ∀ σ', StC σ' B M ds an tx D3 o3 R3 hd en bf ws rs rd PA PB hh ww → kp4 σ σ' → post (.inl (some (mI 1))) σ') : Tr Ls N 333 0 [some (mP (some 2)), some (mI (a : Int)), none, none, none, none, none, none] [] σ post := by
  iterate 8 (refine tr_mv rfl (fun _ => rfl) ?_)
  exact s_333_a h ha hT (fun v5 v6 v7 => s_333_b ha hT h.1.2.2.2.1 K _ 0 σ v5 v6 v7 h kp4.rf (Nat.add_zero _)) _ 0 none none (Nat.add_zero _)
end TEXT
