/-! Words: pure; the class's. -/
def ownB (rd : Nat → List Int) (t r l : Int) : Bool := if r ≠ -1 then decide (r = l) else if rd t.toNat = [] then decide (t = l) else decide (l ∈ rd t.toNat)
/-- can the word p be read as l -/
abbrev own (ws rs : List Int) (rd : Nat → List Int) (l : Int) (p : Nat) : Prop := ownB rd (ws.getD p 0) (rs.getD p 0) l = true
def lnsL (ws rs : List Int) (rd : Nat → List Int) (l : Int) : List Nat := (List.range ws.length).filter (fun p => ownB rd (ws.getD p 0) (rs.getD p 0) l)
def okCo (n : Nat) (ws rs : List Int) (rd : Nat → List Int) : Prop := ws.length ≤ 30 ∧ rs.length = ws.length ∧ (∀ w ∈ ws, 0 ≤ w ∧ w < (n : Int)) ∧ (∀ r ∈ rs, -1 ≤ r ∧ r < (n : Int)) ∧ ∀ i, i < 30 → (rd i).length ≤ 3 ∧ ∀ r ∈ rd i, 0 ≤ r ∧ r < (n : Int)
def cCo (σ : Sg) (ws rs : List Int) (rd : Nat → List Int) : Prop := σ.1 38 = ws ∧ σ.1 40 = rs ∧ ∀ i, i < 30 → σ.1 (43 + 2 * i) = rd i
theorem getD_mem {l : List Int} {p : Nat} (h : p < l.length) : l.getD p 0 ∈ l := by
  rw [List.getD_eq_getElem?_getD, List.getElem?_eq_getElem h]
  exact List.getElem_mem h
abbrev inW (ws : List Int) (a : Int) : Prop := 0 ≤ a ∧ a < (ws.length : Int)
/-- two words, of which one may be missing -/
def cwW (kt : Int → List Int) (ws : List Int) (a b : Int) : Int := if inW ws a ∧ inW ws b then cmpL (kt (ws.getD a.toNat 0)) (kt (ws.getD b.toNat 0)) else b2 (inW ws a) - b2 (inW ws b)
/-- two words by their neighbours -/
def cnW (kt : Int → List Int) (ws : List Int) (s a b : Int) : Int := if cwW kt ws (a + s) (b + s) ≠ 0 then cwW kt ws (a + s) (b + s) else cwW kt ws (a + 2 * s) (b + 2 * s)
def gnW (kt : Int → List Int) (ws : List Int) (s : Int) (e y : Nat) : Bool := decide (0 < cnW kt ws s (y : Int) (e : Int))
def insW (kt : Int → List Int) (ws : List Int) (s : Int) (l : List Nat) (e : Nat) : List Nat := (insR (gnW kt ws s e) e l.reverse).reverse
def ordW (kt : Int → List Int) (ws : List Int) (s : Int) (ls : List Nat) : List Nat := ls.foldl (insW kt ws s) []
theorem cwW_in (kt : Int → List Int) (ws : List Int) (a b : Int) : -1 ≤ cwW kt ws a b ∧ cwW kt ws a b ≤ 1 := by
  unfold cwW
  split
  · rcases cmpL_in (kt (ws.getD a.toNat 0)) (kt (ws.getD b.toNat 0)) with h | h | h <;> omega
  · have h1 := b2_in (inW ws a)
    have h2 := b2_in (inW ws b)
    omega
theorem cnW_in (kt : Int → List Int) (ws : List Int) (s a b : Int) : -1 ≤ cnW kt ws s a b ∧ cnW kt ws s a b ≤ 1 := by
  unfold cnW
  split <;> exact cwW_in ..
theorem insW_len (kt : Int → List Int) (ws : List Int) (s : Int) (l : List Nat) (e : Nat) : (insW kt ws s l e).length = l.length + 1 := by
  unfold insW
  rw [List.length_reverse, insR_len, List.length_reverse]
theorem ordW_len (kt : Int → List Int) (ws : List Int) (s : Int) : ∀ (es l : List Nat), (es.foldl (insW kt ws s) l).length = l.length + es.length
  | [], l => rfl
  | e :: es, l => by
    rw [List.foldl_cons, ordW_len kt ws s es, insW_len, List.length_cons]
    omega
theorem mem_insW {kt : Int → List Int} {ws : List Int} {s : Int} {l : List Nat} {e x : Nat} : x ∈ insW kt ws s l e ↔ x = e ∨ x ∈ l := by
  unfold insW
  rw [List.mem_reverse, mem_insR, List.mem_reverse]
theorem mem_ordW {kt : Int → List Int} {ws : List Int} {s : Int} : ∀ (es l : List Nat) (x : Nat), x ∈ es.foldl (insW kt ws s) l ↔ x ∈ l ∨ x ∈ es
  | [], l, x => by simp
  | e :: es, l, x => by
    rw [List.foldl_cons, mem_ordW es, mem_insW, List.mem_cons]
    constructor
    · rintro ((h | h) | h)
      · exact Or.inr (Or.inl h)
      · exact Or.inl h
      · exact Or.inr (Or.inr h)
    · rintro (h | h | h)
      · exact Or.inl (Or.inr h)
      · exact Or.inl (Or.inl h)
      · exact Or.inr h
section WORDS
variable {Ls N k pc n n' nn b c t a q kd w d p X T : Nat} {L0 : mLs} {st r as : List mV} {h h' : mH} {σ σ' σ'' : Sg} {post : tP} {x y z x' y' i i' s v m u lv : Int} {xs ys ss L M A B ws rs : List Int} {e : mE} {C : Nat → Nat → Prop} {R : Nat → Prop} {tx : List (List Int)} {en : List EnT} {D : TD} {o : Nat → Int} {rd : Nat → List Int} {kt : Int → List Int}
theorem s_32 (hC : okCo n ws rs rd) (hn : n ≤ 30) (cC : cCo σ ws rs rd) (hp : p < ws.length) (hx : in32 x) (K : post (.inl (some (mI (b2 (own ws rs rd x p))))) σ) : Tr Ls N 32 0 [some (mP (some 37)), some (mI (p : Int)), some (mI x), none] [] σ post := by
  obtain ⟨h1, h2, h3, h4, h5⟩ := hC
  obtain ⟨c1, c2, c3⟩ := cC
  have hw := h3 _ (getD_mem hp)
  have hr := h4 _ (getD_mem (show p < rs.length by omega))
  have e28 : rget (σ.1 38) (p : Int) = ws.getD p 0 := by rw [c1, rget_nat hp]
  have e29 : rget (σ.1 40) (p : Int) = rs.getD p 0 := by rw [c2, rget_nat (by omega)]
  unfold own ownB at K
  generalize ws.getD p 0 = w at *
  generalize rs.getD p 0 = rr at *
  iterate 2 (refine tr_mv rfl (fun _ => rfl) ?_)
  refine tr_vc (q := 37) rfl ⟨by decide, by decide +kernel⟩ rfl rfl rfl (s_29 (by omega) ?_)
  rw [e29]
  iterate 1 (refine tr_mv rfl (fun _ => rfl) ?_)
  refine tr_cmp2 rfl (m32_of (by omega)) (m32_of (by omega)) (fun g1 => ?_) (fun g1 => ?_)
  · have g2 : rr = -1 := g1
    rw [if_neg (fun g => g g2)] at K
    obtain ⟨tt, rfl⟩ : ∃ tt : Nat, w = (tt : Int) := ⟨w.toNat, by omega⟩
    rw [Int.toNat_natCast] at K
    have h6 := h5 tt (by omega)
    iterate 3 (refine tr_mv rfl (fun _ => rfl) ?_)
    refine tr_vc (q := 37) rfl ⟨by decide, by decide +kernel⟩ rfl rfl rfl (s_28 (by omega) ?_)
    rw [e28]
    refine tr_vc (q := 37) rfl ⟨by decide, by decide +kernel⟩ rfl rfl rfl (s_31 (p := tt) (by omega) ?_)
    iterate 2 (refine tr_mv rfl (fun _ => rfl) ?_)
    refine tr_isEmpty (r_R (by omega)) rfl rfl ?_
    rw [c3 tt (by omega)]
    by_cases g3 : rd tt = []
    · rw [if_pos g3] at K ⊢
      iterate 3 (refine tr_mv rfl (fun _ => rfl) ?_)
      refine tr_vc (q := 37) rfl ⟨by decide, by decide +kernel⟩ rfl rfl rfl (s_28 (by omega) ?_)
      rw [e28]
      iterate 1 (refine tr_mv rfl (fun _ => rfl) ?_)
      refine tr_cmp2 rfl (m32_of (by omega)) (m32_of (by omega)) (fun g4 => ?_) (fun g4 => ?_)
      · have g5 : ¬ (tt : Int) = x := g4
        iterate 2 (refine tr_mv rfl (fun _ => rfl) ?_)
        exact tr_rb0 rfl (fun g => g5 (of_decide_eq_true g)) K
      · have g5 : (tt : Int) = x := Decidable.of_not_not g4
        iterate 2 (refine tr_mv rfl (fun _ => rfl) ?_)
        exact tr_rb1 rfl (decide_eq_true g5) K
    · rw [if_neg g3] at K ⊢
      iterate 3 (refine tr_mv rfl (fun _ => rfl) ?_)
      refine tr_vc (q := (43 + 2 * tt)) rfl ⟨by omega, (r_R (by omega)).2.1⟩ rfl rfl rfl (s_104 (r_R (by omega)) hx ?_)
      rw [c3 tt (by omega)]
      rw [b2_congr (show decide (x ∈ rd tt) = true ↔ x ∈ rd tt from decide_eq_true_iff)] at K
      exact tr_rb rfl K
  · have g2 : ¬ rr = -1 := g1
    rw [if_pos g2] at K
    iterate 2 (refine tr_mv rfl (fun _ => rfl) ?_)
    refine tr_vc (q := 37) rfl ⟨by decide, by decide +kernel⟩ rfl rfl rfl (s_29 (by omega) ?_)
    rw [e29]
    iterate 1 (refine tr_mv rfl (fun _ => rfl) ?_)
    refine tr_cmp2 rfl (m32_of (by omega)) (m32_of (by omega)) (fun g4 => ?_) (fun g4 => ?_)
    · have g5 : ¬ rr = x := g4
      iterate 1 (refine tr_mv rfl (fun _ => rfl) ?_)
      exact tr_rb0 rfl (fun g => g5 (of_decide_eq_true g)) K
    · have g5 : rr = x := Decidable.of_not_not g4
      iterate 2 (refine tr_mv rfl (fun _ => rfl) ?_)
      exact tr_rb1 rfl (decide_eq_true g5) K
theorem s_33 (hC : okCo n ws rs rd) (hn : n ≤ 30) (cC : cCo σ ws rs rd) (hx : in32 x) (K : post (.inl (some (mI ((lnsL ws rs rd x).length : Int)))) σ) : Tr Ls N 33 0 [some (mP (some 37)), some (mI x), none, none] [] σ post := by
  have hl := hC.1
  have loop : ∀ (d j : Nat), j + d = ws.length → Tr Ls N 33 4 [some (mP (some 37)), some (mI x), some (mI (((List.range j).filter (fun p => ownB rd (ws.getD p 0) (rs.getD p 0) x)).length : Int)), some (mI (j : Int))] [] σ post := by
    intro d
    induction d with
    | zero =>
      intro j e
      have hfl : ((List.range j).filter (fun p => ownB rd (ws.getD p 0) (rs.getD p 0) x)).length ≤ j := Nat.le_trans (List.length_filter_le _ _) (by simp)
      iterate 2 (refine tr_mv rfl (fun _ => rfl) ?_)
      refine tr_gr rfl ⟨by decide, rfl⟩ (by decide) rfl ?_
      refine tr_size r_38 rfl rfl ?_
      rw [cC.1]
      refine tr_cmp2 rfl (m32_of (by omega)) (m32_of (by omega)) (fun _ => ?_) (fun c9 => absurd (show (ws.length : Int) ≤ (j : Int) by omega) c9)
      iterate 1 (refine tr_mv rfl (fun _ => rfl) ?_)
      rw [show lnsL ws rs rd x = (List.range j).filter (fun p => ownB rd (ws.getD p 0) (rs.getD p 0) x) by rw [show j = ws.length by omega]; rfl] at K
      exact tr_ri rfl rfl K
    | succ d ih =>
      intro j e
      have k := ih (j + 1) (by omega)
      rw [range_filter_succ, List.length_append] at k
      have hfl : ((List.range j).filter (fun p => ownB rd (ws.getD p 0) (rs.getD p 0) x)).length ≤ j := Nat.le_trans (List.length_filter_le _ _) (by simp)
      generalize ((List.range j).filter (fun p => ownB rd (ws.getD p 0) (rs.getD p 0) x)).length = acc at k hfl ⊢
      iterate 2 (refine tr_mv rfl (fun _ => rfl) ?_)
      refine tr_gr rfl ⟨by decide, rfl⟩ (by decide) rfl ?_
      refine tr_size r_38 rfl rfl ?_
      rw [cC.1]
      refine tr_cmp2 rfl (m32_of (by omega)) (m32_of (by omega)) (fun c9 => absurd (show (ws.length : Int) ≤ (j : Int) from c9) (by omega)) (fun _ => ?_)
      iterate 4 (refine tr_mv rfl (fun _ => rfl) ?_)
      refine tr_vc (q := 37) rfl ⟨by decide, by decide +kernel⟩ rfl rfl rfl (s_32 hC hn cC (p := j) (by omega) hx ?_)
      first | refine tr_ib rfl (fun g1 => ?_) (fun g1 => ?_) | refine tr_ibn rfl (fun g1 => ?_) (fun g1 => ?_)
      · rw [if_neg g1] at k
        iterate 4 (refine tr_mv rfl (fun _ => rfl) ?_)
        show Tr Ls N 33 35 [some (mP (some 37)), some (mI x), some (mI ((acc : Int) + 0)), some (mI ((j : Int) + 1))] [] σ post
        iterate 1 (refine tr_mv rfl (fun _ => rfl) ?_)
        rw [show (j : Int) + 1 = ((j + 1 : Nat) : Int) by omega, show (acc : Int) + 0 = ((acc + ([] : List Nat).length : Nat) : Int) by simp]
        exact k
      · rw [if_pos g1] at k
        iterate 5 (refine tr_mv rfl (fun _ => rfl) ?_)
        show Tr Ls N 33 35 [some (mP (some 37)), some (mI x), some (mI ((acc : Int) + 1)), some (mI ((j : Int) + 1))] [] σ post
        iterate 1 (refine tr_mv rfl (fun _ => rfl) ?_)
        rw [show (j : Int) + 1 = ((j + 1 : Nat) : Int) by omega, show (acc : Int) + 1 = ((acc + [j].length : Nat) : Int) by simp]
        exact k
  iterate 4 (refine tr_mv rfl (fun _ => rfl) ?_)
  exact loop ws.length 0 (by omega)
/-- comparing words, with the texts' keys at hand -/
abbrev keyed (σ : Sg) (n : Nat) (kt : Int → List Int) : Prop := ∀ i, i < n → σ.1 (155 + 4 * i) = kt (i : Int)
theorem s_206 (hw : ws.length ≤ 30) (hi : ∀ w ∈ ws, 0 ≤ w ∧ w < (n : Int)) (hn : n ≤ 30) (c1 : σ.1 38 = ws) (hk : keyed σ n kt) (hx : in32 x) (hy : in32 y) (K : post (.inl (some (mI (cwW kt ws x y)))) σ) : Tr Ls N 206 0 [some (mP (some 2)), some (mI x), some (mI y)] [] σ post := by
  have e26 : ∀ z, b2 (0 ≤ z ∧ z < ((σ.1 38).length : Int)) = b2 (inW ws z) := fun z => by rw [c1]
  have t22 : ¬ (inW ws x ∧ inW ws y) → Tr Ls N 206 22 [some (mP (some 2)), some (mI x), some (mI y)] [] σ post := by
    intro g
    unfold cwW at K
    rw [if_neg g] at K
    have t38 : ∀ v, v = b2 (inW ws x) → Tr Ls N 206 38 [some (mP (some 2)), some (mI x), some (mI y)] [mI v] σ post := by
      intro v hv
      iterate 1 (refine tr_mv rfl (fun _ => rfl) ?_)
      refine tr_gr rfl ⟨by decide, rfl⟩ (by decide) rfl ?_
      iterate 1 (refine tr_mv rfl (fun _ => rfl) ?_)
      refine tr_vc (q := 37) rfl ⟨by decide, by decide +kernel⟩ rfl rfl rfl (s_26 hy ?_)
      rw [e26]
      first | refine tr_ib rfl (fun g2 => ?_) (fun g2 => ?_) | refine tr_ibn rfl (fun g2 => ?_) (fun g2 => ?_)
      · rw [b2_neg g2] at K
        iterate 2 (refine tr_mv rfl (fun _ => rfl) ?_)
        exact tr_ri rfl (by rw [hv]) K
      · rw [b2_pos g2] at K
        iterate 3 (refine tr_mv rfl (fun _ => rfl) ?_)
        exact tr_ri rfl (by rw [hv]) K
    iterate 1 (refine tr_mv rfl (fun _ => rfl) ?_)
    refine tr_gr rfl ⟨by decide, rfl⟩ (by decide) rfl ?_
    iterate 1 (refine tr_mv rfl (fun _ => rfl) ?_)
    refine tr_vc (q := 37) rfl ⟨by decide, by decide +kernel⟩ rfl rfl rfl (s_26 hx ?_)
    rw [e26]
    first | refine tr_ib rfl (fun g2 => ?_) (fun g2 => ?_) | refine tr_ibn rfl (fun g2 => ?_) (fun g2 => ?_)
    · iterate 1 (refine tr_mv rfl (fun _ => rfl) ?_)
      exact t38 0 (b2_neg g2).symm
    · iterate 2 (refine tr_mv rfl (fun _ => rfl) ?_)
      exact t38 1 (b2_pos g2).symm
  iterate 1 (refine tr_mv rfl (fun _ => rfl) ?_)
  refine tr_gr rfl ⟨by decide, rfl⟩ (by decide) rfl ?_
  iterate 1 (refine tr_mv rfl (fun _ => rfl) ?_)
  refine tr_vc (q := 37) rfl ⟨by decide, by decide +kernel⟩ rfl rfl rfl (s_26 hx ?_)
  rw [e26]
  first | refine tr_ib rfl (fun g1 => ?_) (fun g1 => ?_) | refine tr_ibn rfl (fun g1 => ?_) (fun g1 => ?_)
  · exact t22 (fun g => g1 g.1)
  · iterate 1 (refine tr_mv rfl (fun _ => rfl) ?_)
    refine tr_gr rfl ⟨by decide, rfl⟩ (by decide) rfl ?_
    iterate 1 (refine tr_mv rfl (fun _ => rfl) ?_)
    refine tr_vc (q := 37) rfl ⟨by decide, by decide +kernel⟩ rfl rfl rfl (s_26 hy ?_)
    rw [e26]
    first | refine tr_ib rfl (fun g2 => ?_) (fun g2 => ?_) | refine tr_ibn rfl (fun g2 => ?_) (fun g2 => ?_)
    · unfold cwW at K
      rw [if_pos ⟨g1, g2⟩] at K
      obtain ⟨a, rfl⟩ : ∃ a : Nat, x = (a : Int) := ⟨x.toNat, by omega⟩
      obtain ⟨b, rfl⟩ : ∃ b : Nat, y = (b : Int) := ⟨y.toNat, by omega⟩
      rw [Int.toNat_natCast, Int.toNat_natCast] at K
      have ha : a < ws.length := by have := g1.2; omega
      have hb : b < ws.length := by have := g2.2; omega
      have h1 := hi _ (getD_mem ha)
      have h2 := hi _ (getD_mem hb)
      have e1 : rget (σ.1 38) (a : Int) = ws.getD a 0 := by rw [c1, rget_nat ha]
      have e2 : rget (σ.1 38) (b : Int) = ws.getD b 0 := by rw [c1, rget_nat hb]
      generalize ws.getD a 0 = w1 at *
      generalize ws.getD b 0 = w2 at *
      obtain ⟨t1, rfl⟩ : ∃ t1 : Nat, w1 = (t1 : Int) := ⟨w1.toNat, by omega⟩
      obtain ⟨t2, rfl⟩ : ∃ t2 : Nat, w2 = (t2 : Int) := ⟨w2.toNat, by omega⟩
      iterate 2 (refine tr_mv rfl (fun _ => rfl) ?_)
      refine tr_gr rfl ⟨by decide, rfl⟩ (by decide) rfl ?_
      iterate 1 (refine tr_mv rfl (fun _ => rfl) ?_)
      refine tr_vc (q := 37) rfl ⟨by decide, by decide +kernel⟩ rfl rfl rfl (s_28 (by omega) ?_)
      rw [e1]
      refine tr_vc (q := 2) rfl ⟨by decide, by decide +kernel⟩ rfl rfl rfl (s_170 (p := t1) (by omega) ?_)
      iterate 2 (refine tr_mv rfl (fun _ => rfl) ?_)
      refine tr_gr rfl ⟨by decide, rfl⟩ (by decide) rfl ?_
      iterate 1 (refine tr_mv rfl (fun _ => rfl) ?_)
      refine tr_vc (q := 37) rfl ⟨by decide, by decide +kernel⟩ rfl rfl rfl (s_28 (by omega) ?_)
      rw [e2]
      refine tr_vc (q := 2) rfl ⟨by decide, by decide +kernel⟩ rfl rfl rfl (s_170 (p := t2) (by omega) ?_)
      refine tr_stat rfl rfl rfl (s_192 (r_K (by omega)) (r_K (by omega)) ?_)
      rw [hk t1 (by omega), hk t2 (by omega)]
      exact tr_ri rfl rfl K
    · exact t22 (fun g => g2 g.2)
theorem s_205 (hw : ws.length ≤ 30) (hi : ∀ w ∈ ws, 0 ≤ w ∧ w < (n : Int)) (hn : n ≤ 30) (c1 : σ.1 38 = ws) (hk : keyed σ n kt) (hx : 0 ≤ x ∧ x < 100) (hy : 0 ≤ y ∧ y < 100) (hs : s = -1 ∨ s = 1) (K : post (.inl (some (mI (cnW kt ws s x y)))) σ) : Tr Ls N 205 0 [some (mP (some 2)), some (mI x), some (mI y), some (mI s), none] [] σ post := by
  unfold cnW at K
  have h1 := cwW_in kt ws (x + s) (y + s)
  iterate 7 (refine tr_mv rfl (fun _ => rfl) ?_)
  refine tr_vc (q := 2) rfl ⟨by decide, by decide +kernel⟩ rfl rfl rfl (s_206 hw hi hn c1 hk (by omega) (by omega) ?_)
  iterate 2 (refine tr_mv rfl (fun _ => rfl) ?_)
  refine tr_if2 rfl (m32_of (by omega)) (fun g1 => ?_) (fun g1 => ?_)
  · have g2 : cwW kt ws (x + s) (y + s) = 0 := g1
    rw [if_neg (fun g => g g2)] at K
    iterate 11 (refine tr_mv rfl (fun _ => rfl) ?_)
    refine tr_vc (q := 2) rfl ⟨by decide, by decide +kernel⟩ rfl rfl rfl (s_206 hw hi hn c1 hk (by omega) (by omega) ?_)
    exact tr_ri rfl rfl K
  · have g2 : ¬ cwW kt ws (x + s) (y + s) = 0 := g1
    rw [if_pos g2] at K
    iterate 2 (refine tr_mv rfl (fun _ => rfl) ?_)
    exact tr_ri rfl rfl K
/-- a word is put behind those that are not behind it -/
theorem s_204 (hw : ws.length ≤ 30) (hi : ∀ w ∈ ws, 0 ≤ w ∧ w < (n : Int)) (hn : n ≤ 30) (c1 : σ.1 38 = ws) (hk : keyed σ n kt) (hp : p < 30) {l : List Nat} (e : σ.1 144 = ci l) (hl : l.length < 30) (hlm : ∀ y ∈ l, y < 30) (hs : s = -1 ∨ s = 1) (K : post (.inl none) (setR σ 144 (ci (insW kt ws s l p)))) : Tr Ls N 204 0 [some (mP (some 2)), some (mI (p : Int)), some (mI s), none] [] σ post := by
  have hcl : (ci l).length = l.length := by simp
  have loop : ∀ (ra B : List Nat), l = ra.reverse ++ B → post (.inl none) (setR σ 144 (ci ((insR (gnW kt ws s p) p ra).reverse ++ B))) → Tr Ls N 204 8 [some (mP (some 2)), some (mI (p : Int)), some (mI s), some (mI (ra.length : Int))] [] σ post := by
    have last : ∀ (ra B : List Nat), l = ra.reverse ++ B → post (.inl none) (setR σ 144 (ci (ra.reverse ++ p :: B))) → Tr Ls N 204 37 [some (mP (some 2)), some (mI (p : Int)), some (mI s), some (mI (ra.length : Int))] [] σ post := by
      intro ra B el k
      have hll := congrArg List.length el
      simp only [List.length_append, List.length_reverse] at hll
      iterate 1 (refine tr_mv rfl (fun _ => rfl) ?_)
      refine tr_gr rfl ⟨by decide, rfl⟩ (by decide) rfl ?_
      iterate 2 (refine tr_mv rfl (fun _ => rfl) ?_)
      refine tr_insert r_144 (by omega) rfl rfl ?_
      rw [m32_of (show in32 (ra.length : Int) by omega), e]
      have hri : rins 30 (ci l) (ra.length : Int) (p : Int) = ci (ra.reverse ++ p :: B) := by
        unfold rins
        rw [if_pos (by rw [hcl]; omega), Int.toNat_natCast, el]
        have := insIdx_mid (p : Int) (ci B) (ci ra.reverse)
        rw [show (ci ra.reverse).length = ra.length by simp] at this
        rw [show ci (ra.reverse ++ B) = ci ra.reverse ++ ci B from List.map_append, this]
        simp
      rw [hri]
      exact tr_ret rfl (fun _ => rfl) k
    intro ra
    induction ra with
    | nil =>
      intro B el k
      iterate 1 (refine tr_mv rfl (fun _ => rfl) ?_)
      refine tr_if2 rfl (m32_of (by decide)) (fun _ => ?_) (fun c9 => absurd (show (0 : Int) ≤ 0 by decide) c9)
      exact last [] B el k
    | cons u ra ih =>
      intro B el k
      have hll := congrArg List.length el
      simp only [List.length_append, List.length_reverse, List.length_cons] at hll
      have hum : u < 30 := hlm u (by rw [el]; simp)
      iterate 1 (refine tr_mv rfl (fun _ => rfl) ?_)
      refine tr_if2 rfl (m32_of (show in32 (((u :: ra).length : Nat) : Int) by simp only [List.length_cons]; omega)) (fun c9 => absurd (show (((u :: ra).length : Nat) : Int) ≤ 0 from c9) (by simp only [List.length_cons]; omega)) (fun _ => ?_)
      iterate 2 (refine tr_mv rfl (fun _ => rfl) ?_)
      refine tr_gr rfl ⟨by decide, rfl⟩ (by decide) rfl ?_
      iterate 3 (refine tr_mv rfl (fun _ => rfl) ?_)
      refine tr_at2 r_144 (m32_of (show in32 ((((u :: ra).length : Nat) : Int) - 1) by simp only [List.length_cons]; omega)) rfl rfl ?_
      have hg : rget (σ.1 144) ((((u :: ra).length : Nat) : Int) - 1) = (u : Int) := by
        rw [e, el, show ci ((u :: ra).reverse ++ B) = ci ra.reverse ++ (u : Int) :: ci B by simp]
        exact rget_mid (by simp)
      rw [hg]
      iterate 2 (refine tr_mv rfl (fun _ => rfl) ?_)
      refine tr_vc (q := 2) rfl ⟨by decide, by decide +kernel⟩ rfl rfl rfl (s_205 hw hi hn c1 hk (by omega) (by omega) hs ?_)
      have h1 := cnW_in kt ws s (u : Int) (p : Int)
      rw [show insR (gnW kt ws s p) p (u :: ra) = if gnW kt ws s p u = true then u :: insR (gnW kt ws s p) p ra else p :: u :: ra from rfl] at k
      refine tr_if2 rfl (m32_of (by omega)) (fun g1 => ?_) (fun g1 => ?_)
      · have g2 : cnW kt ws s (u : Int) (p : Int) ≤ 0 := g1
        rw [if_neg (show ¬ gnW kt ws s p u = true from fun g => by have := of_decide_eq_true g; omega)] at k
        refine last (u :: ra) B el ?_
        rw [show (p :: u :: ra).reverse ++ B = (u :: ra).reverse ++ p :: B by simp] at k
        exact k
      · have g2 : ¬ cnW kt ws s (u : Int) (p : Int) ≤ 0 := g1
        rw [if_pos (show gnW kt ws s p u = true from decide_eq_true (by omega))] at k
        iterate 2 (refine tr_mv rfl (fun _ => rfl) ?_)
        show Tr Ls N 204 8 [some (mP (some 2)), some (mI (p : Int)), some (mI s), some (mI ((((u :: ra).length : Nat) : Int) + -1))] [] σ post
        rw [show (((u :: ra).length : Nat) : Int) + -1 = (ra.length : Int) by simp only [List.length_cons]; omega]
        refine ih (u :: B) (by rw [el]; simp) ?_
        rw [show (u :: insR (gnW kt ws s p) p ra).reverse ++ B = (insR (gnW kt ws s p) p ra).reverse ++ u :: B by simp] at k
        exact k
  iterate 1 (refine tr_mv rfl (fun _ => rfl) ?_)
  refine tr_gr rfl ⟨by decide, rfl⟩ (by decide) rfl ?_
  refine tr_size r_144 rfl rfl ?_
  rw [e, hcl]
  iterate 1 (refine tr_mv rfl (fun _ => rfl) ?_)
  rw [show (l.length : Int) = (l.reverse.length : Int) by simp]
  refine loop l.reverse [] (by simp) ?_
  rw [List.append_nil]
  exact K
end WORDS
