/-! Locators move: pure. -/
def mvC (A B : List Int) (c : Int) : Int := 1000 * (c / 1000) + mvF A B (c % 1000)
def mvS (A B : List Int) (acc : List Int) (c : Int) : List Int := if mvF A B (c % 1000) = -1 ∨ mvC A B c ∈ acc then acc else acc ++ [mvC A B c]
def mvL (A B l : List Int) : List Int := l.foldl (mvS A B) []
def mvD (A B l : List Int) : Nat := (l.filter (fun c => decide (mvF A B (c % 1000) = -1))).length
theorem mvS_mem {A B acc : List Int} {c x : Int} : x ∈ mvS A B acc c ↔ x ∈ acc ∨ (mvF A B (c % 1000) ≠ -1 ∧ x = mvC A B c) := by
  unfold mvS
  by_cases g : mvF A B (c % 1000) = -1 ∨ mvC A B c ∈ acc
  · rw [if_pos g]
    constructor
    · exact Or.inl
    · rintro (h | ⟨h1, h2⟩)
      · exact h
      · rcases g with g | g
        · exact absurd g h1
        · rw [h2]
          exact g
  · rw [if_neg g, List.mem_append, List.mem_singleton]
    constructor
    · rintro (h | h)
      · exact Or.inl h
      · exact Or.inr ⟨fun e => g (Or.inl e), h⟩
    · rintro (h | h)
      · exact Or.inl h
      · exact Or.inr h.2
theorem mvL_mem {A B : List Int} {x : Int} : ∀ (l acc : List Int), x ∈ l.foldl (mvS A B) acc ↔ x ∈ acc ∨ ∃ c ∈ l, mvF A B (c % 1000) ≠ -1 ∧ x = mvC A B c
  | [], acc => by simp
  | c :: l, acc => by
    rw [List.foldl_cons, mvL_mem l, mvS_mem]
    constructor
    · rintro ((h | h) | ⟨d, h1, h2⟩)
      · exact Or.inl h
      · exact Or.inr ⟨c, List.mem_cons_self, h⟩
      · exact Or.inr ⟨d, List.mem_cons_of_mem _ h1, h2⟩
    · rintro (h | ⟨d, h1, h2⟩)
      · exact Or.inl (Or.inl h)
      · rcases List.mem_cons.mp h1 with e | e
        · rw [e] at h2
          exact Or.inl (Or.inr h2)
        · exact Or.inr ⟨d, e, h2⟩
theorem mvL_len {A B : List Int} : ∀ (l acc : List Int), (l.foldl (mvS A B) acc).length ≤ acc.length + l.length
  | [], _ => Nat.le_refl _
  | c :: l, acc => by
    rw [List.foldl_cons]
    have h := mvL_len (A := A) (B := B) l (mvS A B acc c)
    have h2 : (mvS A B acc c).length ≤ acc.length + 1 := by
      unfold mvS
      split
      · omega
      · simp
    simp only [List.length_cons]
    omega
theorem mvL_nodup {A B : List Int} : ∀ (l acc : List Int), acc.Nodup → (l.foldl (mvS A B) acc).Nodup
  | [], _, h => h
  | c :: l, acc, h => by
    rw [List.foldl_cons]
    refine mvL_nodup l _ ?_
    unfold mvS
    split
    · exact h
    · rename_i g
      refine List.nodup_append.mpr ⟨h, List.nodup_cons.mpr ⟨List.not_mem_nil, List.nodup_nil⟩, fun a ha b hb e => ?_⟩
      rw [List.mem_singleton.mp hb] at e
      rw [e] at ha
      exact g (Or.inr ha)
theorem mvC_ok {A B : List Int} (hp : okPins A B) {c : Int} (hc : okLc c) (h : mvF A B (c % 1000) ≠ -1) : okLc (mvC A B c) ∧ (mvC A B c) / 1000 = c / 1000 ∧ (mvC A B c) % 1000 = mvF A B (c % 1000) := by
  have := (mvF_range hp (c % 1000)).resolve_left h
  unfold mvC
  refine ⟨⟨?_, ?_, ?_⟩, ?_, ?_⟩ <;> omega
theorem mvL_sorted {A B : List Int} (hp : okPins A B) : ∀ (l acc : List Int), (∀ c ∈ l, okLc c) → l.Pairwise (fun a b => a < b) → acc.Pairwise (fun a b => a < b) → (∀ x ∈ acc, ∀ c ∈ l, mvF A B (c % 1000) ≠ -1 → x ≤ mvC A B c) → (l.foldl (mvS A B) acc).Pairwise (fun a b => a < b)
  | [], _, _, _, h, _ => h
  | c :: l, acc, hk, hl, h, hx => by
    obtain ⟨l1, l2⟩ := List.pairwise_cons.mp hl
    have hc := hk c List.mem_cons_self
    rw [List.foldl_cons]
    refine mvL_sorted hp l _ (fun d hd => hk d (List.mem_cons_of_mem _ hd)) l2 ?_ (fun x hx2 d hd hm => ?_)
    · unfold mvS
      split
      · exact h
      · rename_i g
        refine List.pairwise_append.mpr ⟨h, List.pairwise_singleton _ _, fun a ha b hb => ?_⟩
        rw [List.mem_singleton.mp hb]
        have k1 := hx a ha c List.mem_cons_self (fun e => g (Or.inl e))
        have k2 : a ≠ mvC A B c := fun e => g (Or.inr (by rw [← e]; exact ha))
        omega
    · rcases mvS_mem.mp hx2 with k | ⟨k1, k2⟩
      · exact hx x k d (List.mem_cons_of_mem _ hd) hm
      · rw [k2]
        have hd' := hk d (List.mem_cons_of_mem _ hd)
        have hcd := l1 d hd
        have m1 := mvC_ok hp hc k1
        have m2 := mvC_ok hp hd' hm
        by_cases e : c / 1000 = d / 1000
        · have m3 := mvF_mono hp (show c % 1000 ≤ d % 1000 by omega) k1 hm
          unfold mvC
          omega
        · omega
theorem mvC_sw {A B : List Int} (hp : okPins A B) {c : Int} (hc : okLc c) (h : mvF A B (c % 1000) ≠ -1) : mvC A B (swc c) = swc (mvC A B c) := by
  have k := swc_ok hc
  have m := mvC_ok hp hc h
  rw [show mvC A B (swc c) = 1000 * (swc c / 1000) + mvF A B (swc c % 1000) from rfl, k.2.2.1, k.2.2.2.1, show swc (mvC A B c) = 1000 * rk (mvC A B c / 1000) + mvC A B c % 1000 from rfl, m.2.1, m.2.2]
theorem okLoc.move {A B L M : List Int} (h : okLoc L M) (hp : okPins A B) : okLoc (mvL A B L) (mvL A B M) := by
  obtain ⟨h1, h2, h3, h4, h5, h6⟩ := h
  have memL : ∀ x, x ∈ mvL A B L ↔ ∃ c ∈ L, mvF A B (c % 1000) ≠ -1 ∧ x = mvC A B c := fun x => (mvL_mem L []).trans ⟨fun g => g.elim (fun g => absurd g List.not_mem_nil) id, Or.inr⟩
  have memM : ∀ x, x ∈ mvL A B M ↔ ∃ c ∈ M, mvF A B (c % 1000) ≠ -1 ∧ x = mvC A B c := fun x => (mvL_mem M []).trans ⟨fun g => g.elim (fun g => absurd g List.not_mem_nil) id, Or.inr⟩
  refine ⟨mvL_sorted hp L [] h2 h1 List.Pairwise.nil (fun x hx => absurd hx List.not_mem_nil), fun x hx => ?_, fun x hx => ?_, mvL_nodup M [] List.nodup_nil, ?_, fun m hm => ?_⟩
  · obtain ⟨c, hc, hn, rfl⟩ := (memL x).mp hx
    exact (mvC_ok hp (h2 c hc) hn).1
  · obtain ⟨c, hc, hn, rfl⟩ := (memM x).mp hx
    exact (mvC_ok hp (h3 c hc) hn).1
  · have := mvL_len (A := A) (B := B) L []
    show (L.foldl (mvS A B) []).length ≤ 10
    simp only [List.length_nil] at this
    omega
  · rw [memM, memL]
    constructor
    · rintro ⟨c, hc, hn, rfl⟩
      have k := swc_ok (h3 c hc)
      refine ⟨swc c, (h6 c (h3 c hc)).mp hc, ?_, ?_⟩
      · rw [k.2.2.2.1]
        exact hn
      · rw [mvC_sw hp (h3 c hc) hn]
    · rintro ⟨c, hc, hn, e⟩
      have k := swc_ok (h2 c hc)
      refine ⟨swc c, (h6 _ k.1).mpr (by rw [k.2.1]; exact hc), ?_, ?_⟩
      · rw [k.2.2.2.1]
        exact hn
      · rw [mvC_sw hp (h2 c hc) hn, ← e, (swc_ok hm).2.1]
theorem okLoc.dead {A B L M : List Int} (h : okLoc L M) : mvD A B L = mvD A B M := by
  obtain ⟨h1, h2, h3, h4, h5, h6⟩ := h
  have hn : L.Nodup := h1.imp (fun h => by omega)
  unfold mvD
  have sub : ∀ {P Q : List Int}, P.Nodup → (∀ c ∈ P, okLc c) → (∀ c ∈ P, swc c ∈ Q) → (P.filter (fun c => decide (mvF A B (c % 1000) = -1))).length ≤ (Q.filter (fun c => decide (mvF A B (c % 1000) = -1))).length := by
    intro P Q hP hk hs
    have := sub_len (map_nodup (hP.filter (fun c => decide (mvF A B (c % 1000) = -1))) (fun m hm => hk m (List.mem_filter.mp hm).1)) (l2 := Q.filter (fun c => decide (mvF A B (c % 1000) = -1))) (fun x hx => by
      obtain ⟨m, hm, rfl⟩ := List.mem_map.mp hx
      obtain ⟨g1, g2⟩ := List.mem_filter.mp hm
      refine List.mem_filter.mpr ⟨hs m g1, ?_⟩
      rw [(swc_ok (hk m g1)).2.2.2.1]
      exact g2)
    simpa using this
  have a := sub hn h2 (fun c hc => (h6 _ (swc_ok (h2 c hc)).1).mpr (by rw [(swc_ok (h2 c hc)).2.1]; exact hc))
  have b := sub h4 h3 (fun c hc => (h6 c (h3 c hc)).mp hc)
  omega
