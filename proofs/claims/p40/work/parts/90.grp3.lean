/-! Groups of locators: runs of pages, and how both sides find them. -/
def rn (s f l : Int) : List Int → List Gp
  | [] => [(s, f, l)]
  | q :: qs => if q = l + 1 then rn s f q qs else (s, f, l) :: rn s q q qs
def runs (s : Int) : List Int → List Gp
  | [] => []
  | p :: ps => rn s p p ps
theorem rn_sort {s : Int} : ∀ (ps : List Int) (f l : Int), ∀ g ∈ rn s f l ps, g.1 = s
  | [], f, l, g, hg => by rw [List.mem_singleton.mp hg]
  | q :: qs, f, l, g, hg => by
    unfold rn at hg
    split at hg
    · exact rn_sort qs f q g hg
    · rcases List.mem_cons.mp hg with k | k
      · rw [k]
      · exact rn_sort qs q q g k
theorem runs_sort {s : Int} : ∀ (ps : List Int), ∀ g ∈ runs s ps, g.1 = s
  | [], g, hg => absurd hg List.not_mem_nil
  | p :: ps, g, hg => rn_sort ps p p g hg
theorem rn_len {s : Int} : ∀ (ps : List Int) (f l : Int), (rn s f l ps).length ≤ ps.length + 1
  | [], f, l => Nat.le_refl _
  | q :: qs, f, l => by
    unfold rn
    split
    · have := rn_len (s := s) qs f q
      simp only [List.length_cons]
      omega
    · have := rn_len (s := s) qs q q
      simp only [List.length_cons]
      omega
theorem runs_len {s : Int} : ∀ (ps : List Int), (runs s ps).length ≤ ps.length
  | [] => Nat.le_refl _
  | p :: ps => rn_len ps p p
theorem fold_rn {s : Int} : ∀ (cs : List Int) (f l : Int) (r : List Gp), (∀ c ∈ cs, rk (c / 1000) = s) → cs.foldl addR ((s, f, l) :: r) = (rn s f l (cs.map (fun c => c % 1000))).reverse ++ r
  | [], f, l, r, _ => rfl
  | c :: cs, f, l, r, h => by
    have hc := h c List.mem_cons_self
    have ih := fun f l r => fold_rn cs f l r (fun x hx => h x (List.mem_cons_of_mem _ hx))
    rw [List.foldl_cons, List.map_cons]
    show cs.foldl addR (if s = rk (c / 1000) ∧ l + 1 = c % 1000 then (s, f, c % 1000) :: r else (rk (c / 1000), c % 1000, c % 1000) :: (s, f, l) :: r) = (if c % 1000 = l + 1 then rn s f (c % 1000) (cs.map (fun c => c % 1000)) else (s, f, l) :: rn s (c % 1000) (c % 1000) (cs.map (fun c => c % 1000))).reverse ++ r
    by_cases e : c % 1000 = l + 1
    · rw [if_pos ⟨hc.symm, e.symm⟩, if_pos e, ih]
    · rw [if_neg (fun g => e g.2.symm), if_neg e, hc, ih]
      simp
theorem fold_runs {s : Int} {rg : List Gp} (hrg : ∀ g r, rg = g :: r → g.1 ≠ s) : ∀ (cs : List Int), (∀ c ∈ cs, rk (c / 1000) = s) → cs.foldl addR rg = (runs s (cs.map (fun c => c % 1000))).reverse ++ rg
  | [], _ => rfl
  | c :: cs, h => by
    have hc := h c List.mem_cons_self
    rw [List.foldl_cons, List.map_cons]
    have e : addR rg c = (s, c % 1000, c % 1000) :: rg := by
      cases hr : rg with
      | nil => show [(rk (c / 1000), c % 1000, c % 1000)] = _; rw [hc]
      | cons g r =>
        obtain ⟨s0, f0, l0⟩ := g
        have := hrg _ _ hr
        show (if s0 = rk (c / 1000) ∧ l0 + 1 = c % 1000 then _ else _) = _
        rw [if_neg (fun g => this (by rw [← hc]; exact g.1)), hc]
    rw [e, fold_rn cs _ _ _ (fun x hx => h x (List.mem_cons_of_mem _ hx))]
    rfl
/-- the codes of a sort, its pages -/
def cdS (s : Int) (L : List Int) : List Int := L.filter (fun c => decide (c / 1000 = rk s))
def pgS (s : Int) (L : List Int) : List Int := (cdS s L).map (fun c => c % 1000)
theorem isorted_unique : ∀ {l1 l2 : List Int}, l1.Pairwise (fun a b => a < b) → l2.Pairwise (fun a b => a < b) → (∀ x, x ∈ l1 ↔ x ∈ l2) → l1 = l2
  | [], [], _, _, _ => rfl
  | [], b :: bs, _, _, hm => absurd ((hm b).mpr List.mem_cons_self) List.not_mem_nil
  | a :: as, [], _, _, hm => absurd ((hm a).mp List.mem_cons_self) List.not_mem_nil
  | a :: as, b :: bs, h1, h2, hm => by
    obtain ⟨a1, a2⟩ := List.pairwise_cons.mp h1
    obtain ⟨b1, b2⟩ := List.pairwise_cons.mp h2
    have e : a = b := by
      rcases List.mem_cons.mp ((hm a).mp List.mem_cons_self) with k | k
      · exact k
      · rcases List.mem_cons.mp ((hm b).mpr List.mem_cons_self) with k2 | k2
        · exact k2.symm
        · have := a1 b k2
          have := b1 a k
          omega
    subst e
    rw [isorted_unique a2 b2 (fun x => ?_)]
    constructor
    · intro hx
      rcases List.mem_cons.mp ((hm x).mp (List.mem_cons_of_mem _ hx)) with k | k
      · have := a1 x hx
        omega
      · exact k
    · intro hx
      rcases List.mem_cons.mp ((hm x).mpr (List.mem_cons_of_mem _ hx)) with k | k
      · have := b1 x hx
        omega
      · exact k
theorem rk_0 : rk 0 = 1 := rfl
theorem rk_1 : rk 1 = 0 := rfl
theorem rk_2 : rk 2 = 2 := rfl
theorem split_codes {L : List Int} (hs : L.Pairwise (fun a b => a < b)) (hok : ∀ c ∈ L, okLc c) : L = cdS 1 L ++ (cdS 0 L ++ cdS 2 L) := by
  have hm : ∀ s c, c ∈ cdS s L ↔ c ∈ L ∧ c / 1000 = rk s := fun s c => by unfold cdS; rw [List.mem_filter, decide_eq_true_iff]
  refine isorted_unique hs ?_ (fun x => ?_)
  · refine List.pairwise_append.mpr ⟨hs.filter _, List.pairwise_append.mpr ⟨hs.filter _, hs.filter _, fun a ha b hb => ?_⟩, fun a ha b hb => ?_⟩
    · have h1 := ((hm 0 a).mp ha).2
      have h2 := ((hm 2 b).mp hb).2
      rw [rk_0] at h1
      rw [rk_2] at h2
      omega
    · have h1 := ((hm 1 a).mp ha).2
      rw [rk_1] at h1
      rcases List.mem_append.mp hb with g | g
      · have h2 := ((hm 0 b).mp g).2
        rw [rk_0] at h2
        omega
      · have h2 := ((hm 2 b).mp g).2
        rw [rk_2] at h2
        omega
  · rw [List.mem_append, List.mem_append, hm, hm, hm, rk_0, rk_1, rk_2]
    constructor
    · intro hx
      have := hok x hx
      have h3 : x / 1000 = 0 ∨ x / 1000 = 1 ∨ x / 1000 = 2 := by omega
      rcases h3 with h | h | h
      · exact Or.inl ⟨hx, h⟩
      · exact Or.inr (Or.inl ⟨hx, h⟩)
      · exact Or.inr (Or.inr ⟨hx, h⟩)
    · rintro (h | h | h) <;> exact h.1
theorem fold_all {L : List Int} (hs : L.Pairwise (fun a b => a < b)) (hok : ∀ c ∈ L, okLc c) : (L.foldl addR []).reverse = runs 1 (pgS 1 L) ++ (runs 0 (pgS 0 L) ++ runs 2 (pgS 2 L)) := by
  have hm : ∀ s c, c ∈ cdS s L → c / 1000 = rk s := fun s c h => by unfold cdS at h; rw [List.mem_filter, decide_eq_true_iff] at h; exact h.2
  have h1 : ∀ c ∈ cdS 1 L, rk (c / 1000) = 1 := fun c h => by rw [hm 1 c h]; rfl
  have h0 : ∀ c ∈ cdS 0 L, rk (c / 1000) = 0 := fun c h => by rw [hm 0 c h]; rfl
  have h2 : ∀ c ∈ cdS 2 L, rk (c / 1000) = 2 := fun c h => by rw [hm 2 c h]; rfl
  have hd : ∀ {s t : Int} {P : List Int} {rg : List Gp}, s ≠ t → (∀ g r, rg = g :: r → g.1 ≠ t) → ∀ g r, (runs s P).reverse ++ rg = g :: r → g.1 ≠ t := by
    intro s t P rg hne hrg g r e
    cases hr : (runs s P).reverse with
    | nil =>
      rw [hr, List.nil_append] at e
      exact hrg g r e
    | cons z zs =>
      rw [hr, List.cons_append] at e
      injection e with e1 e2
      have hz : z ∈ runs s P := by
        have : z ∈ (runs s P).reverse := by rw [hr]; exact List.mem_cons_self
        exact List.mem_reverse.mp this
      rw [← e1, runs_sort P z hz]
      exact hne
  have hnil : ∀ t : Int, ∀ (g : Gp) (r : List Gp), ([] : List Gp) = g :: r → g.1 ≠ t := fun t g r h => by cases h
  have e := split_codes hs hok
  rw [show L.foldl addR [] = (cdS 1 L ++ (cdS 0 L ++ cdS 2 L)).foldl addR [] from congrArg (fun l => l.foldl addR []) e, List.foldl_append, List.foldl_append, fold_runs (hnil 1) _ h1, fold_runs (hd (by decide) (hnil 0)) _ h0, fold_runs (hd (by decide) (hd (by decide) (hnil 2))) _ h2]
  unfold pgS
  simp
/-! the next page -/
