/-! Groups of locators: runs of pages, and how both sides find them. -/
def rn (s f l : Int) : List Int → List Gp
  | [] => [(s, f, l)]
  | q :: qs => if q = l + 1 then rn s f q qs else (s, f, l) :: rn s q q qs
def runs (s : Int) : List Int → List Gp
  | [] => []
  | p :: ps => rn s p p ps
theorem rn_sort {s : Int} : ∀ (ps : List Int) (f l : Int), ∀ g ∈ rn s f l ps, g.1 = s
  | [], f, l, g, hg => by rw [List.mem_singleton.mp hg]
  | q :: qs, f, l, g, hg => by
    unfold rn at hg
    split at hg
    · exact rn_sort qs f q g hg
    · rcases List.mem_cons.mp hg with k | k
      · rw [k]
      · exact rn_sort qs q q g k
theorem runs_sort {s : Int} : ∀ (ps : List Int), ∀ g ∈ runs s ps, g.1 = s
  | [], g, hg => absurd hg List.not_mem_nil
  | p :: ps, g, hg => rn_sort ps p p g hg
theorem rn_len {s : Int} : ∀ (ps : List Int) (f l : Int), (rn s f l ps).length ≤ ps.length + 1
  | [], f, l => Nat.le_refl _
  | q :: qs, f, l => by
    unfold rn
    split
    · have := rn_len (s := s) qs f q
      simp only [List.length_cons]
      omega
    · have := rn_len (s := s) qs q q
      simp only [List.length_cons]
      omega
theorem runs_len {s : Int} : ∀ (ps : List Int), (runs s ps).length ≤ ps.length
  | [] => Nat.le_refl _
  | p :: ps => rn_len ps p p
theorem fold_rn {s : Int} : ∀ (cs : List Int) (f l : Int) (r : List Gp), (∀ c ∈ cs, rk (c / 1000) = s) → cs.foldl addR ((s, f, l) :: r) = (rn s f l (cs.map (fun c => c % 1000))).reverse ++ r
  | [], f, l, r, _ => rfl
  | c :: cs, f, l, r, h => by
    have hc := h c List.mem_cons_self
    have ih := fun f l r => fold_rn cs f l r (fun x hx => h x (List.mem_cons_of_mem _ hx))
    rw [List.foldl_cons, List.map_cons]
    show cs.foldl addR (if s = rk (c / 1000) ∧ l + 1 = c % 1000 then (s, f, c % 1000) :: r else (rk (c / 1000), c % 1000, c % 1000) :: (s, f, l) :: r) = (if c % 1000 = l + 1 then rn s f (c % 1000) (cs.map (fun c => c % 1000)) else (s, f, l) :: rn s (c % 1000) (c % 1000) (cs.map (fun c => c % 1000))).reverse ++ r
    by_cases e : c % 1000 = l + 1
    · rw [if_pos ⟨hc.symm, e.symm⟩, if_pos e, ih]
    · rw [if_neg (fun g => e g.2.symm), if_neg e, hc, ih]
      simp
theorem fold_runs {s : Int} {rg : List Gp} (hrg : ∀ g r, rg = g :: r → g.1 ≠ s) : ∀ (cs : List Int), (∀ c ∈ cs, rk (c / 1000) = s) → cs.foldl addR rg = (runs s (cs.map (fun c => c % 1000))).reverse ++ rg
  | [], _ => rfl
  | c :: cs, h => by
    have hc := h c List.mem_cons_self
    rw [List.foldl_cons, List.map_cons]
    have e : addR rg c = (s, c % 1000, c % 1000) :: rg := by
      cases hr : rg with
      | nil => show [(rk (c / 1000), c % 1000, c % 1000)] = _; rw [hc]
      | cons g r =>
        obtain ⟨s0, f0, l0⟩ := g
        have := hrg _ _ hr
        show (if s0 = rk (c / 1000) ∧ l0 + 1 = c % 1000 then _ else _) = _
        rw [if_neg (fun g => this (by rw [← hc]; exact g.1)), hc]
    rw [e, fold_rn cs _ _ _ (fun x hx => h x (List.mem_cons_of_mem _ hx))]
    rfl
/-- the codes of a sort, its pages -/
def cdS (s : Int) (L : List Int) : List Int := L.filter (fun c => decide (c / 1000 = rk s))
def pgS (s : Int) (L : List Int) : List Int := (cdS s L).map (fun c => c % 1000)
theorem isorted_unique : ∀ {l1 l2 : List Int}, l1.Pairwise (fun a b => a < b) → l2.Pairwise (fun a b => a < b) → (∀ x, x ∈ l1 ↔ x ∈ l2) → l1 = l2
  | [], [], _, _, _ => rfl
  | [], b :: bs, _, _, hm => absurd ((hm b).mpr List.mem_cons_self) List.not_mem_nil
  | a :: as, [], _, _, hm => absurd ((hm a).mp List.mem_cons_self) List.not_mem_nil
  | a :: as, b :: bs, h1, h2, hm => by
    obtain ⟨a1, a2⟩ := List.pairwise_cons.mp h1
    obtain ⟨b1, b2⟩ := List.pairwise_cons.mp h2
    have e : a = b := by
      rcases List.mem_cons.mp ((hm a).mp List.mem_cons_self) with k | k
      · exact k
      · rcases List.mem_cons.mp ((hm b).mpr List.mem_cons_self) with k2 | k2
        · exact k2.symm
        · have := a1 b k2
          have := b1 a k
          omega
    subst e
    rw [isorted_unique a2 b2 (fun x => ?_)]
    constructor
    · intro hx
      rcases List.mem_cons.mp ((hm x).mp (List.mem_cons_of_mem _ hx)) with k | k
      · have := a1 x hx
        omega
      · exact k
    · intro hx
      rcases List.mem_cons.mp ((hm x).mpr (List.mem_cons_of_mem _ hx)) with k | k
      · have := b1 x hx
        omega
      · exact k
theorem rk_0 : rk 0 = 1 := rfl
theorem rk_1 : rk 1 = 0 := rfl
theorem rk_2 : rk 2 = 2 := rfl
theorem split_codes {L : List Int} (hs : L.Pairwise (fun a b => a < b)) (hok : ∀ c ∈ L, okLc c) : L = cdS 1 L ++ (cdS 0 L ++ cdS 2 L) := by
  have hm : ∀ s c, c ∈ cdS s L ↔ c ∈ L ∧ c / 1000 = rk s := fun s c => by unfold cdS; rw [List.mem_filter, decide_eq_true_iff]
  refine isorted_unique hs ?_ (fun x => ?_)
  · refine List.pairwise_append.mpr ⟨hs.filter _, List.pairwise_append.mpr ⟨hs.filter _, hs.filter _, fun a ha b hb => ?_⟩, fun a ha b hb => ?_⟩
    · have h1 := ((hm 0 a).mp ha).2
      have h2 := ((hm 2 b).mp hb).2
      rw [rk_0] at h1
      rw [rk_2] at h2
      omega
    · have h1 := ((hm 1 a).mp ha).2
      rw [rk_1] at h1
      rcases List.mem_append.mp hb with g | g
      · have h2 := ((hm 0 b).mp g).2
        rw [rk_0] at h2
        omega
      · have h2 := ((hm 2 b).mp g).2
        rw [rk_2] at h2
        omega
  · rw [List.mem_append, List.mem_append, hm, hm, hm, rk_0, rk_1, rk_2]
    constructor
    · intro hx
      have := hok x hx
      have h3 : x / 1000 = 0 ∨ x / 1000 = 1 ∨ x / 1000 = 2 := by omega
      rcases h3 with h | h | h
      · exact Or.inl ⟨hx, h⟩
      · exact Or.inr (Or.inl ⟨hx, h⟩)
      · exact Or.inr (Or.inr ⟨hx, h⟩)
    · rintro (h | h | h) <;> exact h.1
theorem fold_all {L : List Int} (hs : L.Pairwise (fun a b => a < b)) (hok : ∀ c ∈ L, okLc c) : (L.foldl addR []).reverse = runs 1 (pgS 1 L) ++ (runs 0 (pgS 0 L) ++ runs 2 (pgS 2 L)) := by
  have hm : ∀ s c, c ∈ cdS s L → c / 1000 = rk s := fun s c h => by unfold cdS at h; rw [List.mem_filter, decide_eq_true_iff] at h; exact h.2
  have h1 : ∀ c ∈ cdS 1 L, rk (c / 1000) = 1 := fun c h => by rw [hm 1 c h]; rfl
  have h0 : ∀ c ∈ cdS 0 L, rk (c / 1000) = 0 := fun c h => by rw [hm 0 c h]; rfl
  have h2 : ∀ c ∈ cdS 2 L, rk (c / 1000) = 2 := fun c h => by rw [hm 2 c h]; rfl
  have hd : ∀ {s t : Int} {P : List Int} {rg : List Gp}, s ≠ t → (∀ g r, rg = g :: r → g.1 ≠ t) → ∀ g r, (runs s P).reverse ++ rg = g :: r → g.1 ≠ t := by
    intro s t P rg hne hrg g r e
    cases hr : (runs s P).reverse with
    | nil =>
      rw [hr, List.nil_append] at e
      exact hrg g r e
    | cons z zs =>
      rw [hr, List.cons_append] at e
      injection e with e1 e2
      have hz : z ∈ runs s P := by
        have : z ∈ (runs s P).reverse := by rw [hr]; exact List.mem_cons_self
        exact List.mem_reverse.mp this
      rw [← e1, runs_sort P z hz]
      exact hne
  have hnil : ∀ t : Int, ∀ (g : Gp) (r : List Gp), ([] : List Gp) = g :: r → g.1 ≠ t := fun t g r h => by cases h
  have e := split_codes hs hok
  rw [show L.foldl addR [] = (cdS 1 L ++ (cdS 0 L ++ cdS 2 L)).foldl addR [] from congrArg (fun l => l.foldl addR []) e, List.foldl_append, List.foldl_append, fold_runs (hnil 1) _ h1, fold_runs (hd (by decide) (hnil 0)) _ h0, fold_runs (hd (by decide) (hd (by decide) (hnil 2))) _ h2]
  unfold pgS
  simp
theorem cntP_stop {w : Int} : ∀ (B C : List Gp), (∀ g ∈ C, g.1 ≠ 0) → cntP w (B ++ C) = cntP w B
  | [], [], _ => rfl
  | [], c :: C, h => by
    show (if c.1 = 0 ∧ c.2.1 ≤ w then _ else 0) = _
    rw [if_neg (fun g => h c List.mem_cons_self g.1)]
    rfl
  | b :: B, C, h => by
    show (if b.1 = 0 ∧ b.2.1 ≤ w then cntP w (B ++ C) + 1 else 0) = if b.1 = 0 ∧ b.2.1 ≤ w then cntP w B + 1 else 0
    rw [cntP_stop B C h]
theorem jn1_keep {g : Gp} {gs : List Gp} (h : g.1 ≠ 0) : jn1 (g :: gs) = g :: gs := by
  refine jn1_neg ?_
  show ¬ 4 ≤ (if g.1 = 0 ∧ g.2.1 ≤ g.2.1 + 9 then _ else 0)
  rw [if_neg (fun k => h k.1)]
  omega
theorem jnA_keep : ∀ (A : List Gp) (d : Nat) (B : List Gp), (∀ g ∈ A, g.1 ≠ 0) → jnA (A.length + d) (A ++ B) = A ++ jnA d B
  | [], d, B, _ => by simp
  | a :: A, d, B, h => by
    rw [show (a :: A).length + d = (A.length + d) + 1 by simp; omega, List.cons_append, jnA_cons (jn1_keep (h a List.mem_cons_self)), jnA_keep A d B (fun g hg => h g (List.mem_cons_of_mem _ hg))]
    rfl
theorem jnA_more : ∀ (d d' : Nat) (l : List Gp), l.length ≤ d → l.length ≤ d' → jnA d l = jnA d' l
  | 0, d', l, h, _ => by
    have : l = [] := List.length_eq_zero_iff.mp (by omega)
    rw [this, jnA_nil, jnA_nil]
  | d + 1, 0, l, _, h => by
    have : l = [] := List.length_eq_zero_iff.mp (by omega)
    rw [this, jnA_nil, jnA_nil]
  | d + 1, d' + 1, l, h1, h2 => by
    cases hj : jn1 l with
    | nil =>
      show (match jn1 l with
        | [] => []
        | g :: gs => g :: jnA d gs) = (match jn1 l with
        | [] => []
        | g :: gs => g :: jnA d' gs)
      rw [hj]
    | cons g gs =>
      have hl := (jn1_len l).1
      rw [hj] at hl
      simp only [List.length_cons] at hl
      rw [jnA_cons hj, jnA_cons hj, jnA_more d d' gs (by omega) (by omega)]
/-- a plain row's joining doesn't reach what is behind it -/
theorem jnA_app : ∀ (d : Nat) (B C : List Gp), B.length ≤ d → (∀ g ∈ C, g.1 ≠ 0) → jnA (d + C.length) (B ++ C) = jnA d B ++ C
  | 0, B, C, h, hC => by
    have : B = [] := List.length_eq_zero_iff.mp (by omega)
    subst this
    have := jnA_keep C 0 [] hC
    rw [Nat.add_zero, List.append_nil] at this
    rw [List.nil_append, Nat.zero_add, this]
    show C ++ [] = C
    simp
  | d + 1, [], C, h, hC => by
    rw [List.nil_append, jnA_nil, List.nil_append, jnA_more _ C.length C (by omega) (Nat.le_refl _)]
    have := jnA_keep C 0 [] hC
    rw [Nat.add_zero, List.append_nil] at this
    rw [this]
    show C ++ [] = C
    simp
  | d + 1, b :: B, C, h, hC => by
    have hbl : (b :: B).length = B.length + 1 := rfl
    have hcs := cntP_stop (w := b.2.1 + 9) (b :: B) C hC
    have hle := cntP_le (b.2.1 + 9) (b :: B)
    rw [show d + 1 + C.length = (d + C.length) + 1 by omega]
    by_cases c : 4 ≤ cntP (b.2.1 + 9) (b :: B)
    · have e1 := jn1_pos c
      have e2 : jn1 (b :: (B ++ C)) = (3, b.2.1, ((b :: B).getD (cntP (b.2.1 + 9) (b :: B) - 1) (0, 0, 0)).2.2) :: (B.drop (cntP (b.2.1 + 9) (b :: B) - 1) ++ C) := by
        have hcs' : cntP (b.2.1 + 9) (b :: (B ++ C)) = cntP (b.2.1 + 9) (b :: B) := hcs
        rw [jn1_pos (by rw [hcs']; exact c), hcs', List.drop_append_of_le_length (by omega)]
        congr 4
        rw [List.getD_eq_getElem?_getD, List.getD_eq_getElem?_getD, show b :: (B ++ C) = (b :: B) ++ C from rfl, List.getElem?_append_left (by omega)]
      rw [List.cons_append, jnA_cons e2, jnA_cons e1, jnA_app d _ C (by rw [List.length_drop]; omega) hC]
      rfl
    · have e1 := jn1_neg c
      have e2 : jn1 (b :: (B ++ C)) = b :: (B ++ C) := jn1_neg (by rw [show cntP (b.2.1 + 9) (b :: (B ++ C)) = cntP (b.2.1 + 9) (b :: B) from hcs]; exact c)
      rw [List.cons_append, jnA_cons e2, jnA_cons e1, jnA_app d B C (by omega) hC]
      rfl
theorem grpL_eq {L : List Int} (hs : L.Pairwise (fun a b => a < b)) (hok : ∀ c ∈ L, okLc c) : grpL L = runs 1 (pgS 1 L) ++ (jnA (runs 0 (pgS 0 L)).length (runs 0 (pgS 0 L)) ++ runs 2 (pgS 2 L)) := by
  have h1 : ∀ g ∈ runs 1 (pgS 1 L), g.1 ≠ 0 := fun g hg => by rw [runs_sort _ g hg]; decide
  have h2 : ∀ g ∈ runs 2 (pgS 2 L), g.1 ≠ 0 := fun g hg => by rw [runs_sort _ g hg]; decide
  have e := fold_all hs hok
  have hl := congrArg List.length e
  rw [List.length_reverse, List.length_append, List.length_append] at hl
  unfold grpL
  rw [e, hl, jnA_keep _ _ _ h1, jnA_app _ _ _ (Nat.le_refl _) h2]
theorem rn_ok {s : Int} (hs : 0 ≤ s ∧ s ≤ 3) : ∀ (ps : List Int) (f l : Int), (0 ≤ f ∧ f ≤ 999) → (0 ≤ l ∧ l ≤ 999) → (∀ p ∈ ps, 0 ≤ p ∧ p ≤ 999) → ∀ g ∈ rn s f l ps, okGp g
  | [], f, l, hf, hl, _, g, hg => by
    rw [List.mem_singleton.mp hg]
    exact ⟨hs, hf, hl⟩
  | q :: qs, f, l, hf, hl, hp, g, hg => by
    have hq := hp q List.mem_cons_self
    unfold rn at hg
    split at hg
    · exact rn_ok hs qs f q hf hq (fun p h => hp p (List.mem_cons_of_mem _ h)) g hg
    · rcases List.mem_cons.mp hg with k | k
      · rw [k]
        exact ⟨hs, hf, hl⟩
      · exact rn_ok hs qs q q hq hq (fun p h => hp p (List.mem_cons_of_mem _ h)) g k
theorem runs_ok {s : Int} (hs : 0 ≤ s ∧ s ≤ 3) : ∀ (ps : List Int), (∀ p ∈ ps, 0 ≤ p ∧ p ≤ 999) → ∀ g ∈ runs s ps, okGp g
  | [], _, g, hg => absurd hg List.not_mem_nil
  | p :: ps, hp, g, hg => rn_ok hs ps p p (hp p List.mem_cons_self) (hp p List.mem_cons_self) (fun q h => hp q (List.mem_cons_of_mem _ h)) g hg
/-! the next page -/
def nxS (s p found m : Int) : Int := if m / 1000 = s ∧ p < m % 1000 ∧ (found = -1 ∨ m % 1000 < found) then m % 1000 else found
def nxF (M : List Int) (s p : Int) : Int := M.foldl (nxS s p) (-1)
def nx (P : List Int) (p : Int) : Int := (P.filter (fun q => decide (p < q))).headD (-1)
def isNx (Q : Int → Prop) (p r : Int) : Prop := (r = -1 ∧ ∀ q, Q q → ¬ p < q) ∨ (Q r ∧ p < r ∧ ∀ q, Q q → p < q → r ≤ q)
theorem isNx_uniq {Q : Int → Prop} {p r r' : Int} (h1 : isNx Q p r) (h2 : isNx Q p r') : r = r' := by
  rcases h1 with ⟨a1, a2⟩ | ⟨a1, a2, a3⟩
  · rcases h2 with ⟨b1, b2⟩ | ⟨b1, b2, b3⟩
    · rw [a1, b1]
    · exact absurd b2 (a2 _ b1)
  · rcases h2 with ⟨b1, b2⟩ | ⟨b1, b2, b3⟩
    · exact absurd a2 (b2 _ a1)
    · have := a3 _ b1 b2
      have := b3 _ a1 a2
      omega
theorem nxF_spec {s p : Int} (hp : 0 ≤ p) : ∀ (M : List Int) (found : Int) (Q : Int → Prop), (∀ q, Q q → 1 ≤ q) → (∀ m ∈ M, 1 ≤ m % 1000) → isNx Q p found → isNx (fun q => Q q ∨ ∃ m ∈ M, m / 1000 = s ∧ m % 1000 = q) p (M.foldl (nxS s p) found)
  | [], found, Q, hQ, hM, h => by
    rcases h with ⟨a1, a2⟩ | ⟨a1, a2, a3⟩
    · exact Or.inl ⟨a1, fun q hq => hq.elim (a2 q) (fun g => by obtain ⟨m, hm, -⟩ := g; cases hm)⟩
    · exact Or.inr ⟨Or.inl a1, a2, fun q hq => hq.elim (a3 q) (fun g => by obtain ⟨m, hm, -⟩ := g; cases hm)⟩
  | m :: M, found, Q, hQ, hM, h => by
    have hm := hM m List.mem_cons_self
    have h1 : isNx (fun q => Q q ∨ (m / 1000 = s ∧ m % 1000 = q)) p (nxS s p found m) := by
      unfold nxS
      split
      · rename_i c
        refine Or.inr ⟨Or.inr ⟨c.1, rfl⟩, c.2.1, fun q hq hpq => ?_⟩
        rcases hq with g | g
        · rcases h with ⟨a1, a2⟩ | ⟨a1, a2, a3⟩
          · exact absurd hpq (a2 q g)
          · have := a3 q g hpq
            have := hQ _ a1
            rcases c.2.2 with k | k <;> omega
        · omega
      · rename_i c
        rcases h with ⟨a1, a2⟩ | ⟨a1, a2, a3⟩
        · refine Or.inl ⟨a1, fun q hq => ?_⟩
          rcases hq with g | g
          · exact a2 q g
          · exact fun k => c ⟨g.1, by omega, Or.inl a1⟩
        · refine Or.inr ⟨Or.inl a1, a2, fun q hq hpq => ?_⟩
          rcases hq with g | g
          · exact a3 q g hpq
          · refine Decidable.byContradiction fun k => c ⟨g.1, by omega, Or.inr (by omega)⟩
    have h2 := nxF_spec (s := s) hp M (nxS s p found m) (fun q => Q q ∨ (m / 1000 = s ∧ m % 1000 = q)) (fun q hq => hq.elim (hQ q) (fun g => by omega)) (fun x hx => hM x (List.mem_cons_of_mem _ hx)) h1
    have e : ∀ q, ((Q q ∨ (m / 1000 = s ∧ m % 1000 = q)) ∨ ∃ m' ∈ M, m' / 1000 = s ∧ m' % 1000 = q) ↔ (Q q ∨ ∃ m' ∈ m :: M, m' / 1000 = s ∧ m' % 1000 = q) := by
      intro q
      constructor
      · rintro ((g | g) | ⟨x, hx, g⟩)
        · exact Or.inl g
        · exact Or.inr ⟨m, List.mem_cons_self, g⟩
        · exact Or.inr ⟨x, List.mem_cons_of_mem _ hx, g⟩
      · rintro (g | ⟨x, hx, g⟩)
        · exact Or.inl (Or.inl g)
        · rcases List.mem_cons.mp hx with k | k
          · rw [k] at g; exact Or.inl (Or.inr g)
          · exact Or.inr ⟨x, k, g⟩
    rcases h2 with ⟨a1, a2⟩ | ⟨a1, a2, a3⟩
    · exact Or.inl ⟨a1, fun q hq => a2 q ((e q).mpr hq)⟩
    · exact Or.inr ⟨(e _).mp a1, a2, fun q hq => a3 q ((e q).mpr hq)⟩
theorem nx_spec {P : List Int} (hs : P.Pairwise (fun a b => a < b)) (p : Int) : isNx (fun q => q ∈ P) p (nx P p) := by
  unfold nx
  cases hf : P.filter (fun q => decide (p < q)) with
  | nil =>
    refine Or.inl ⟨rfl, fun q hq hpq => ?_⟩
    have : q ∈ P.filter (fun q => decide (p < q)) := List.mem_filter.mpr ⟨hq, decide_eq_true hpq⟩
    rw [hf] at this
    cases this
  | cons x l =>
    have hx : x ∈ P.filter (fun q => decide (p < q)) := by rw [hf]; exact List.mem_cons_self
    obtain ⟨h1, h2⟩ := List.mem_filter.mp hx
    refine Or.inr ⟨h1, of_decide_eq_true h2, fun q hq hpq => ?_⟩
    have h3 : q ∈ P.filter (fun q => decide (p < q)) := List.mem_filter.mpr ⟨hq, decide_eq_true hpq⟩
    have h4 := hs.filter (fun q => decide (p < q))
    rw [hf] at h3 h4
    rcases List.mem_cons.mp h3 with k | k
    · show x ≤ q
      omega
    · have := (List.pairwise_cons.mp h4).1 q k
      show x ≤ q
      omega
theorem nx_eq {M P : List Int} {s p : Int} (hp : 0 ≤ p) (hM : ∀ m ∈ M, 1 ≤ m % 1000) (hs : P.Pairwise (fun a b => a < b)) (hPM : ∀ q, q ∈ P ↔ ∃ m ∈ M, m / 1000 = s ∧ m % 1000 = q) : nxF M s p = nx P p := by
  have h1 := nxF_spec (s := s) hp M (-1) (fun _ => False) (fun q h => absurd h id) hM (Or.inl ⟨rfl, fun q h => absurd h id⟩)
  have h2 := nx_spec hs p
  refine isNx_uniq (Q := fun q => q ∈ P) ?_ h2
  have e : ∀ q, (False ∨ ∃ m ∈ M, m / 1000 = s ∧ m % 1000 = q) ↔ q ∈ P := fun q => by rw [hPM q]; exact ⟨fun g => g.elim (fun k => absurd k id) id, Or.inr⟩
  rcases h1 with ⟨a1, a2⟩ | ⟨a1, a2, a3⟩
  · exact Or.inl ⟨a1, fun q hq => a2 q ((e q).mpr hq)⟩
  · exact Or.inr ⟨(e _).mp a1, a2, fun q hq => a3 q ((e q).mpr hq)⟩
theorem nx_mid {P done rest : List Int} {q : Int} (hs : P.Pairwise (fun a b => a < b)) (e : P = done ++ q :: rest) : nx P q = rest.headD (-1) := by
  rw [e] at hs
  obtain ⟨h1, h2, h3⟩ := List.pairwise_append.mp hs
  obtain ⟨h4, h5⟩ := List.pairwise_cons.mp h2
  unfold nx
  rw [e, List.filter_append, List.filter_eq_nil_iff.mpr (fun x hx => by have := h3 x hx q List.mem_cons_self; simp; omega), List.nil_append, List.filter_cons_of_neg (by simp), List.filter_eq_self.mpr (fun x hx => decide_eq_true (h4 x hx))]
theorem nx_zero {P : List Int} (h : ∀ q ∈ P, 1 ≤ q) : nx P 0 = P.headD (-1) := by
  unfold nx
  rw [List.filter_eq_self.mpr (fun x hx => decide_eq_true (by have := h x hx; omega))]
