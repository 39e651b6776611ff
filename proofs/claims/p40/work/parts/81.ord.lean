/-! The order of an index: both ways of finding it. -/
/-- put into a row told backwards, ahead of those that g says -/
def insR (g : Nat → Bool) (e : Nat) : List Nat → List Nat
  | [] => [e]
  | y :: ys => if g y = true then y :: insR g e ys else e :: y :: ys
theorem mem_insR (g : Nat → Bool) (e x : Nat) : ∀ l, x ∈ insR g e l ↔ x = e ∨ x ∈ l
  | [] => by simp [insR]
  | y :: ys => by
    unfold insR
    split
    · rw [List.mem_cons, mem_insR g e x ys, List.mem_cons]
      constructor
      · rintro (h | h | h)
        · exact Or.inr (Or.inl h)
        · exact Or.inl h
        · exact Or.inr (Or.inr h)
      · rintro (h | h | h)
        · exact Or.inr (Or.inl h)
        · exact Or.inl h
        · exact Or.inr (Or.inr h)
    · rw [List.mem_cons]
theorem insR_len (g : Nat → Bool) (e : Nat) : ∀ l, (insR g e l).length = l.length + 1
  | [] => rfl
  | y :: ys => by
    unfold insR
    split
    · simp [insR_len g e ys]
    · rfl
theorem insR_sorted {R : Nat → Nat → Prop} {g : Nat → Bool} {e : Nat} : ∀ {l : List Nat}, l.Pairwise (fun x y => R y x) → (∀ y ∈ l, g y = true ↔ R e y) → (∀ y ∈ l, ¬ R e y → R y e) → (∀ x y, x ∈ l → y ∈ l → R y x → R x e → R y e) → (insR g e l).Pairwise (fun x y => R y x)
  | [], _, _, _, _ => by simp [insR]
  | y :: ys, hs, hg, ht, hr => by
    obtain ⟨h1, h2⟩ := List.pairwise_cons.mp hs
    unfold insR
    split
    · rename_i c
      refine List.pairwise_cons.mpr ⟨fun z hz => ?_, insR_sorted h2 (fun z hz => hg z (List.mem_cons_of_mem _ hz)) (fun z hz => ht z (List.mem_cons_of_mem _ hz)) (fun a b ha hb => hr a b (List.mem_cons_of_mem _ ha) (List.mem_cons_of_mem _ hb))⟩
      rcases (mem_insR g e z ys).mp hz with k | k
      · rw [k]; exact (hg y List.mem_cons_self).mp c
      · exact h1 z k
    · rename_i c
      have hye := ht y List.mem_cons_self (fun k => c ((hg y List.mem_cons_self).mpr k))
      refine List.pairwise_cons.mpr ⟨fun z hz => ?_, hs⟩
      rcases List.mem_cons.mp hz with k | k
      · rw [k]; exact hye
      · exact hr y z List.mem_cons_self (List.mem_cons_of_mem _ k) (h1 z k) hye
theorem sorted_unique {R : Nat → Nat → Prop} : ∀ {l1 l2 : List Nat}, l1.Pairwise R → l2.Pairwise R → (∀ x, x ∈ l1 ↔ x ∈ l2) → (∀ x, x ∈ l1 → ¬ R x x) → (∀ x y, x ∈ l1 → y ∈ l1 → R x y → ¬ R y x) → l1 = l2
  | [], [], _, _, _, _, _ => rfl
  | [], b :: bs, _, _, hm, _, _ => absurd ((hm b).mpr List.mem_cons_self) List.not_mem_nil
  | a :: as, [], _, _, hm, _, _ => absurd ((hm a).mp List.mem_cons_self) List.not_mem_nil
  | a :: as, b :: bs, h1, h2, hm, hi, ha => by
    obtain ⟨a1, a2⟩ := List.pairwise_cons.mp h1
    obtain ⟨b1, b2⟩ := List.pairwise_cons.mp h2
    have hbm := (hm b).mpr List.mem_cons_self
    have e : a = b := by
      rcases List.mem_cons.mp ((hm a).mp List.mem_cons_self) with k | k
      · exact k
      · rcases List.mem_cons.mp hbm with k2 | k2
        · exact k2.symm
        · exact absurd (a1 b k2) (ha b a hbm List.mem_cons_self (b1 a k))
    subst e
    have hna : a ∉ as := fun k => hi a List.mem_cons_self (a1 a k)
    have hnb : a ∉ bs := fun k => hi a List.mem_cons_self (b1 a k)
    rw [sorted_unique (l1 := as) (l2 := bs) a2 b2 (fun x => ?_) (fun x hx => hi x (List.mem_cons_of_mem _ hx)) (fun x y hx hy => ha x y (List.mem_cons_of_mem _ hx) (List.mem_cons_of_mem _ hy))]
    constructor
    · intro hx
      rcases List.mem_cons.mp ((hm x).mp (List.mem_cons_of_mem _ hx)) with k | k
      · rw [k] at hx; exact absurd hx hna
      · exact k
    · intro hx
      rcases List.mem_cons.mp ((hm x).mpr (List.mem_cons_of_mem _ hx)) with k | k
      · rw [k] at hx; exact absurd hx hnb
      · exact k
/-- lists compare transitively -/
theorem cmpL_trans : ∀ (a b c : List Int), cmpL a b ≠ 1 → cmpL b c ≠ 1 → cmpL a c ≠ 1 ∧ (cmpL a c = 0 → cmpL a b = 0 ∧ cmpL b c = 0)
  | [], [], c, h1, h2 => ⟨h2, fun h => ⟨rfl, h⟩⟩
  | [], y :: b, [], h1, h2 => absurd (show cmpL (y :: b) [] = 1 from rfl) h2
  | [], y :: b, z :: c, h1, h2 => ⟨by show (-1 : Int) ≠ 1; decide, fun h => absurd h (by show ¬ (-1 : Int) = 0; decide)⟩
  | x :: a, [], c, h1, h2 => absurd (show cmpL (x :: a) [] = 1 from rfl) h1
  | x :: a, y :: b, [], h1, h2 => absurd (show cmpL (y :: b) [] = 1 from rfl) h2
  | x :: a, y :: b, z :: c, h1, h2 => by
    have hxy : x ≤ y := Decidable.byContradiction fun g => h1 (cmpL_gt (by omega) a b)
    have hyz : y ≤ z := Decidable.byContradiction fun g => h2 (cmpL_gt (by omega) b c)
    by_cases e1 : x = z
    · have e2 : x = y := by omega
      subst e2
      subst e1
      rw [cmpL_same] at h1 h2 ⊢
      rw [cmpL_same, cmpL_same]
      exact cmpL_trans a b c h1 h2
    · rw [cmpL_lt (show x < z by omega)]
      exact ⟨by decide, fun h => absurd h (by decide)⟩
section ORD
variable (kf : Nat → List Int) (pr : Nat → Int) (inI : Nat → Bool) (n : Nat)
/-- by keys, the same by numbers -/
abbrev ahd (a b : Nat) : Prop := cmpL (kf a) (kf b) = -1 ∨ (cmpL (kf a) (kf b) = 0 ∧ a < b)
def gtC (e y : Nat) : Bool := decide (0 < cmpL (kf y) (kf e))
def insK (l : List Nat) (e : Nat) : List Nat := (insR (gtC kf e) e l.reverse).reverse
def topsL : List Nat := ((List.range n).filter (fun e => inI e && decide (pr e = -1))).foldl (insK kf) []
def subsL (p : Nat) : List Nat := ((List.range n).filter (fun e => decide (pr e = (p : Int)))).foldl (insK kf) []
def ordL : List Nat := (topsL kf pr inI n).flatMap (fun t => t :: subsL kf pr n t)
abbrev mnO (e : Nat) : Nat := if pr e = -1 then e else (pr e).toNat
/-- the model's order -/
abbrev gFp (a b : Nat) : Prop := (mnO pr a ≠ mnO pr b ∧ ahd kf (mnO pr a) (mnO pr b)) ∨ (mnO pr a = mnO pr b ∧ (a = mnO pr a ∨ (b ≠ mnO pr b ∧ ahd kf a b)))
def gFb (a b : Nat) : Bool := decide (gFp kf pr a b)
def ordM : List Nat := ((List.range n).filter inI).foldl (fun l e => (insR (gFb kf pr e) e l.reverse).reverse) []
variable {kf} {pr} {inI} {n}
theorem ahd_irr (a : Nat) : ¬ ahd kf a a := by
  have e : cmpL (kf a) (kf a) = 0 := (cmpL_eq _ _).mpr rfl
  unfold ahd
  rw [e]
  omega
theorem ahd_tot {a b : Nat} (h : a ≠ b) (hn : ¬ ahd kf a b) : ahd kf b a := by
  have h1 := cmpL_in (kf a) (kf b)
  have h2 := cmpL_swap (kf a) (kf b)
  unfold ahd at hn ⊢
  omega
theorem ahd_tr {a b c : Nat} (h1 : ahd kf a b) (h2 : ahd kf b c) : ahd kf a c := by
  have i1 := cmpL_in (kf a) (kf b)
  have i2 := cmpL_in (kf b) (kf c)
  have i3 := cmpL_in (kf a) (kf c)
  unfold ahd at h1 h2 ⊢
  have t := cmpL_trans (kf a) (kf b) (kf c) (by omega) (by omega)
  have t2 := t.1
  by_cases g : cmpL (kf a) (kf c) = 0
  · have := t.2 g
    omega
  · omega
theorem gtC_iff {e y : Nat} (h : y < e) : gtC kf e y = true ↔ ahd kf e y := by
  have h2 := cmpL_swap (kf e) (kf y)
  have i1 := cmpL_in (kf e) (kf y)
  unfold gtC ahd
  rw [decide_eq_true_iff]
  omega
theorem fold_ins {P : Nat → Prop} {R : Nat → Nat → Prop} {g : Nat → Nat → Bool} (hg : ∀ e y, P e → P y → y < e → (g e y = true ↔ R e y)) (ht : ∀ a b, P a → P b → a ≠ b → ¬ R a b → R b a) (hr : ∀ a b c, P a → P b → P c → R a b → R b c → R a c) : ∀ (es l : List Nat), l.Pairwise R → es.Pairwise (fun a b => a < b) → (∀ y ∈ l, P y) → (∀ e ∈ es, P e) → (∀ e ∈ es, ∀ y ∈ l, y < e) →
    (es.foldl (fun l e => (insR (g e) e l.reverse).reverse) l).Pairwise R ∧ (∀ x, x ∈ es.foldl (fun l e => (insR (g e) e l.reverse).reverse) l ↔ x ∈ l ∨ x ∈ es) ∧ (es.foldl (fun l e => (insR (g e) e l.reverse).reverse) l).length = l.length + es.length
  | [], l, h1, _, _, _, _ => ⟨h1, fun x => by simp, by simp⟩
  | e :: es, l, h1, h2, h3, h4, h5 => by
    obtain ⟨a1, a2⟩ := List.pairwise_cons.mp h2
    have hmem : ∀ x, x ∈ (insR (g e) e l.reverse).reverse ↔ x = e ∨ x ∈ l := fun x => by rw [List.mem_reverse, mem_insR, List.mem_reverse]
    have he := h4 e List.mem_cons_self
    have hs : (insR (g e) e l.reverse).reverse.Pairwise R := by
      rw [List.pairwise_reverse]
      refine insR_sorted (by rw [List.pairwise_reverse]; exact h1) (fun y hy => ?_) (fun y hy hn => ?_) (fun x y hx hy r1 r2 => ?_)
      · have hy := List.mem_reverse.mp hy
        exact hg e y he (h3 y hy) (h5 e List.mem_cons_self y hy)
      · have hy := List.mem_reverse.mp hy
        have := h5 e List.mem_cons_self y hy
        exact ht e y he (h3 y hy) (by omega) hn
      · have hx := List.mem_reverse.mp hx
        have hy := List.mem_reverse.mp hy
        exact hr y x e (h3 y hy) (h3 x hx) he r1 r2
    obtain ⟨k1, k2, k3⟩ := fold_ins hg ht hr es (insR (g e) e l.reverse).reverse hs a2 (fun y hy => by rcases (hmem y).mp hy with k | k; rw [k]; exact he; exact h3 y k) (fun x hx => h4 x (List.mem_cons_of_mem _ hx)) (fun x hx y hy => by
      rcases (hmem y).mp hy with k | k
      · rw [k]; exact a1 x hx
      · exact h5 x (List.mem_cons_of_mem _ hx) y k)
    refine ⟨k1, fun x => ?_, ?_⟩
    · refine (k2 x).trans ?_
      rw [hmem x, List.mem_cons]
      constructor
      · rintro ((h | h) | h)
        · exact Or.inr (Or.inl h)
        · exact Or.inl h
        · exact Or.inr (Or.inr h)
      · rintro (h | h | h)
        · exact Or.inl (Or.inr h)
        · exact Or.inl (Or.inl h)
        · exact Or.inr h
    · refine k3.trans ?_
      rw [List.length_reverse, insR_len, List.length_reverse, List.length_cons]
      omega
theorem range_lt (p : Nat → Bool) (n : Nat) : ((List.range n).filter p).Pairwise (fun a b => a < b) := List.pairwise_lt_range.filter _
/-- what the entries keep -/
def okPr (pr : Nat → Int) (inI : Nat → Bool) (n : Nat) : Prop := ∀ e, e < n → pr e = -1 ∨ ∃ p : Nat, pr e = (p : Int) ∧ p < n ∧ pr p = -1 ∧ inI e = inI p
/-- goes ahead of another one -/
abbrev gR (kf : Nat → List Int) (pr : Nat → Int) (a b : Nat) : Prop := a ≠ b ∧ gFp kf pr a b
theorem gR_tot {a b : Nat} (h : a ≠ b) (hn : ¬ gFp kf pr a b) : gFp kf pr b a := by
  by_cases e : mnO pr a = mnO pr b
  · refine Or.inr ⟨e.symm, ?_⟩
    by_cases e2 : b = mnO pr b
    · exact Or.inl e2
    · have e3 : a ≠ mnO pr a := fun g => hn (Or.inr ⟨e, Or.inl g⟩)
      exact Or.inr ⟨e3, ahd_tot h (fun g => hn (Or.inr ⟨e, Or.inr ⟨e2, g⟩⟩))⟩
  · exact Or.inl ⟨Ne.symm e, ahd_tot e (fun g => hn (Or.inl ⟨e, g⟩))⟩
theorem gR_tr {a b c : Nat} (h1 : gR kf pr a b) (h2 : gR kf pr b c) : gR kf pr a c := by
  obtain ⟨n1, h1⟩ := h1
  obtain ⟨n2, h2⟩ := h2
  have hmain : mnO pr a ≠ mnO pr c → a ≠ c := fun g e => g (by rw [e])
  rcases h1 with ⟨k1, k2⟩ | ⟨k1, k2⟩
  · rcases h2 with ⟨q1, q2⟩ | ⟨q1, q2⟩
    · have t := ahd_tr k2 q2
      have hne : mnO pr a ≠ mnO pr c := fun e => ahd_irr (kf := kf) _ (by rw [e] at t; exact t)
      exact ⟨hmain hne, Or.inl ⟨hne, t⟩⟩
    · rw [q1] at k1 k2
      exact ⟨hmain k1, Or.inl ⟨k1, k2⟩⟩
  · rcases h2 with ⟨q1, q2⟩ | ⟨q1, q2⟩
    · rw [← k1] at q1 q2
      exact ⟨hmain q1, Or.inl ⟨q1, q2⟩⟩
    · rcases k2 with k2 | ⟨k2, k3⟩
      · rcases q2 with q2 | ⟨q2, q3⟩
        · exact absurd (k2.trans (k1.trans q2.symm)) n1
        · exact ⟨fun e => q2 (by rw [← e]; exact k2), Or.inr ⟨k1.trans q1, Or.inl k2⟩⟩
      · rcases q2 with q2 | ⟨q2, q3⟩
        · exact absurd q2 k2
        · have t := ahd_tr k3 q3
          exact ⟨fun e => ahd_irr (kf := kf) a (by rw [← e] at t; exact t), Or.inr ⟨k1.trans q1, Or.inr ⟨q2, t⟩⟩⟩
theorem tops_spec : (topsL kf pr inI n).Pairwise (ahd kf) ∧ (∀ x, x ∈ topsL kf pr inI n ↔ x < n ∧ inI x = true ∧ pr x = -1) := by
  have h := fold_ins (P := fun _ => True) (R := ahd kf) (g := gtC kf) (fun e y _ _ h => gtC_iff h) (fun a b _ _ h hn => ahd_tot h hn) (fun a b c _ _ _ => ahd_tr) ((List.range n).filter (fun e => inI e && decide (pr e = -1))) [] List.Pairwise.nil (range_lt _ n) (fun _ _ => trivial) (fun _ _ => trivial) (fun e _ y hy => absurd hy List.not_mem_nil)
  refine ⟨h.1, fun x => ?_⟩
  refine (h.2.1 x).trans ?_
  simp
theorem subs_spec (p : Nat) : (subsL kf pr n p).Pairwise (ahd kf) ∧ (∀ x, x ∈ subsL kf pr n p ↔ x < n ∧ pr x = (p : Int)) := by
  have h := fold_ins (P := fun _ => True) (R := ahd kf) (g := gtC kf) (fun e y _ _ h => gtC_iff h) (fun a b _ _ h hn => ahd_tot h hn) (fun a b c _ _ _ => ahd_tr) ((List.range n).filter (fun e => decide (pr e = (p : Int)))) [] List.Pairwise.nil (range_lt _ n) (fun _ _ => trivial) (fun _ _ => trivial) (fun e _ y hy => absurd hy List.not_mem_nil)
  refine ⟨h.1, fun x => ?_⟩
  refine (h.2.1 x).trans ?_
  simp
theorem ordM_spec : (ordM kf pr inI n).Pairwise (gR kf pr) ∧ (∀ x, x ∈ ordM kf pr inI n ↔ x < n ∧ inI x = true) ∧ (ordM kf pr inI n).length ≤ n := by
  have h := fold_ins (P := fun _ => True) (R := gR kf pr) (g := gFb kf pr) (fun e y _ _ h => by unfold gFb; rw [decide_eq_true_iff]; exact ⟨fun g => ⟨by omega, g⟩, fun g => g.2⟩) (fun a b _ _ h hn => ⟨Ne.symm h, gR_tot h (fun g => hn ⟨h, g⟩)⟩) (fun a b c _ _ _ => gR_tr) ((List.range n).filter inI) [] List.Pairwise.nil (range_lt _ n) (fun _ _ => trivial) (fun _ _ => trivial) (fun e _ y hy => absurd hy List.not_mem_nil)
  refine ⟨h.1, fun x => ?_, ?_⟩
  · refine (h.2.1 x).trans ?_
    simp
  · refine Nat.le_trans (Nat.le_of_eq h.2.2) ?_
    have := List.length_filter_le inI (List.range n)
    simp at this ⊢
    exact this
theorem mnO_top {e : Nat} (h : pr e = -1) : mnO pr e = e := if_pos h
theorem mnO_sub {e p : Nat} (h : pr e = (p : Int)) : mnO pr e = p := by
  unfold mnO
  rw [if_neg (by omega), h, Int.toNat_natCast]
theorem ordL_spec (hok : okPr pr inI n) : (ordL kf pr inI n).Pairwise (gR kf pr) ∧ (∀ x, x ∈ ordL kf pr inI n ↔ x < n ∧ inI x = true) := by
  have hT := tops_spec (kf := kf) (pr := pr) (inI := inI) (n := n)
  have hS := fun p => subs_spec (kf := kf) (pr := pr) (n := n) p
  have hmn : ∀ t, pr t = -1 → ∀ x, x ∈ t :: subsL kf pr n t → mnO pr x = t := fun t ht x hx => by
    rcases List.mem_cons.mp hx with k | k
    · rw [k]; exact mnO_top ht
    · exact mnO_sub (((hS t).2 x).mp k).2
  refine ⟨?_, fun x => ?_⟩
  · unfold ordL
    rw [List.pairwise_flatMap]
    refine ⟨fun t ht => ?_, ?_⟩
    · have htp := ((hT.2 t).mp ht).2.2
      refine List.pairwise_cons.mpr ⟨fun s hs => ?_, ?_⟩
      · have hsp := (((hS t).2 s).mp hs).2
        refine ⟨fun e => by rw [e] at htp; omega, Or.inr ⟨?_, Or.inl (mnO_top htp).symm⟩⟩
        rw [mnO_top htp, mnO_sub hsp]
      · refine List.Pairwise.imp_of_mem (fun {a b} ha hb h => ?_) (hS t).1
        have hap := (((hS t).2 a).mp ha).2
        have hbp := (((hS t).2 b).mp hb).2
        refine ⟨fun e => ahd_irr (kf := kf) b (by rw [e] at h; exact h), Or.inr ⟨by rw [mnO_sub hap, mnO_sub hbp], Or.inr ⟨?_, h⟩⟩⟩
        rw [mnO_sub hbp]
        intro e
        rw [e] at hbp
        omega
    · refine List.Pairwise.imp_of_mem (fun {a b} ha hb h => ?_) hT.1
      intro x hx y hy
      have e1 := hmn a ((hT.2 a).mp ha).2.2 x hx
      have e2 := hmn b ((hT.2 b).mp hb).2.2 y hy
      have hne : a ≠ b := fun e => ahd_irr (kf := kf) b (by rw [e] at h; exact h)
      exact ⟨fun e => hne (by rw [← e1, ← e2, e]), Or.inl ⟨by rw [e1, e2]; exact hne, by rw [e1, e2]; exact h⟩⟩
  · unfold ordL
    rw [List.mem_flatMap]
    constructor
    · rintro ⟨t, ht, hx⟩
      obtain ⟨t1, t2, t3⟩ := (hT.2 t).mp ht
      rcases List.mem_cons.mp hx with k | k
      · rw [k]; exact ⟨t1, t2⟩
      · obtain ⟨s1, s2⟩ := ((hS t).2 x).mp k
        rcases hok x s1 with g | ⟨p, g1, g2, g3, g4⟩
        · omega
        · have : p = t := by omega
          rw [this] at g4
          exact ⟨s1, by rw [g4]; exact t2⟩
    · rintro ⟨h1, h2⟩
      rcases hok x h1 with g | ⟨p, g1, g2, g3, g4⟩
      · exact ⟨x, (hT.2 x).mpr ⟨h1, h2, g⟩, List.mem_cons_self⟩
      · exact ⟨p, (hT.2 p).mpr ⟨g2, by rw [← g4]; exact h2, g3⟩, List.mem_cons_of_mem _ (((hS p).2 x).mpr ⟨h1, g1⟩)⟩
theorem ord_eq (hok : okPr pr inI n) : ordL kf pr inI n = ordM kf pr inI n := by
  have h1 := ordL_spec (kf := kf) hok
  have h2 := ordM_spec (kf := kf) (pr := pr) (inI := inI) (n := n)
  refine sorted_unique h1.1 h2.1 (fun x => by rw [h1.2 x, h2.2.1 x]) (fun x _ h => h.1 rfl) (fun x y _ _ h g => (gR_tr h g).1 rfl)
theorem ordL_len (hok : okPr pr inI n) : (ordL kf pr inI n).length ≤ n := by
  rw [ord_eq hok]
  exact (ordM_spec (kf := kf) (pr := pr) (inI := inI) (n := n)).2.2
end ORD
