/-! What holds of texts, entries, words and pins stays so. -/
/-- entries alike but for locators and references -/
def smE (en en' : List EnT) : Prop := en'.length = en.length ∧ ∀ i, enT (en'.getD i enD) = enT (en.getD i enD) ∧ enP (en'.getD i enD) = enP (en.getD i enD) ∧ enS (en'.getD i enD) = enS (en.getD i enD) ∧ enK (en'.getD i enD) = enK (en.getD i enD) ∧ enA (en'.getD i enD) = enA (en.getD i enD)
section PRES
variable {tx tx' : List (List Int)} {en en' : List EnT} {D D' : TD} {o o' : Nat → Int} {X a n : Nat} {t ws rs A B L M : List Int} {rd : Nat → List Int} {i x y z : Int} {D3 : Nat → TD} {o3 : Nat → Nat → Int} {σ : Sg} {e w : EnT}
theorem getD_en (en : List EnT) (i : Nat) : (i < en.length ∧ en.getD i enD ∈ en) ∨ (en.length ≤ i ∧ en.getD i enD = enD) := by
  by_cases h : i < en.length
  · left
    refine ⟨h, ?_⟩
    rw [List.getD_eq_getElem?_getD, List.getElem?_eq_getElem h]
    exact List.getElem_mem h
  · right
    refine ⟨by omega, ?_⟩
    rw [List.getD_eq_getElem?_getD, List.getElem?_eq_none (by omega)]
    rfl
theorem en_getD (h : e ∈ en) : ∃ i, i < en.length ∧ en.getD i enD = e := by
  obtain ⟨i, h1, h2⟩ := List.getElem_of_mem h
  refine ⟨i, h1, ?_⟩
  rw [List.getD_eq_getElem?_getD, List.getElem?_eq_getElem h1]
  exact h2
theorem kfE_same (h : smE en en') : kfE tx en' D o = kfE tx en D o := by
  funext i
  obtain ⟨h1, h2, h3, h4, h5⟩ := h.2 i
  unfold kfE frm
  rw [h1, h4, h5]
theorem ordE_same (h : smE en en') : ordE tx en' D o X = ordE tx en D o X := by
  unfold ordE
  have e1 : prE en' = prE en := by
    funext i
    exact (h.2 i).2.1
  have e2 : inE en' X = inE en X := by
    funext i
    unfold inE
    rw [(h.2 i).2.2.1]
  rw [kfE_same h, e1, e2, h.1]
theorem fwsE_same (h : smE en en') : fwsE tx en' D o = fwsE tx en D o := by
  have e : fwE tx en' D o = fwE tx en D o := by
    funext i
    unfold fwE
    rw [kfE_same h]
  unfold fwsE
  rw [e, h.1]
theorem cX3.same (h : cX3 σ tx en D3 o3) (hs : smE en en') : cX3 σ tx en' D3 o3 := fun X hX => by
  obtain ⟨h1, h2, h3, h4⟩ := h X hX
  refine ⟨h1, h2, h3, ?_⟩
  unfold cOrd at h4 ⊢
  rw [ordE_same hs, fwsE_same hs]
  exact h4
theorem tx_get {k : Nat} (h : k < tx.length) : (tx ++ [t]).getD k [] = tx.getD k [] := by
  rw [List.getD_eq_getElem?_getD, List.getD_eq_getElem?_getD, List.getElem?_append_left h]
theorem okEn_tx (h : okEn tx en) : okEn (tx ++ [t]) en := by
  refine ⟨h.1, fun e he => ?_, h.2.2⟩
  obtain ⟨k1, k2, k3, k4, k5, k6, k7⟩ := h.2.1 e he
  refine ⟨by rw [List.length_append]; omega, k2, k3, k4, ?_, k6, k7⟩
  rw [tx_get k1]
  exact k5
theorem ord_nil (h : en = []) : ordE tx en D o X = [] ∧ fwsE tx en D o = [] := by
  subst h
  have hE : okEn tx ([] : List EnT) := ⟨Nat.zero_le _, fun e h => (List.not_mem_nil h).elim, fun i h => absurd h (Nat.not_lt_zero i)⟩
  refine ⟨List.eq_nil_iff_forall_not_mem.mpr (fun e he => ?_), rfl⟩
  exact absurd (ordE_sub hE X he) (Nat.not_lt_zero e)
theorem kfE_tx (h : okEn tx en) (hn : en ≠ []) : kfE (tx ++ [t]) en D o = kfE tx en D o := by
  obtain ⟨e0, he0⟩ := List.exists_mem_of_ne_nil en hn
  have h0 := (h.2.1 e0 he0).1
  funext i
  unfold kfE frm
  have h1 : enT (en.getD i enD) < tx.length := by
    rcases getD_en en i with ⟨_, g⟩ | ⟨_, g⟩
    · exact (h.2.1 _ g).1
    · rw [g]
      show 0 < tx.length
      omega
  rw [tx_get h1]
theorem ordE_tx (h : okEn tx en) : ordE (tx ++ [t]) en D o X = ordE tx en D o X := by
  by_cases hn : en = []
  · rw [(ord_nil hn).1, (ord_nil hn).1]
  · unfold ordE
    rw [kfE_tx h hn]
theorem fwsE_tx (h : okEn tx en) : fwsE (tx ++ [t]) en D o = fwsE tx en D o := by
  by_cases hn : en = []
  · rw [(ord_nil (X := 0) hn).2, (ord_nil (X := 0) hn).2]
  · have e : fwE (tx ++ [t]) en D o = fwE tx en D o := by
      funext i
      unfold fwE
      rw [kfE_tx h hn]
    unfold fwsE
    rw [e]
theorem cX3.txs (h : cX3 σ tx en D3 o3) (hE : okEn tx en) : cX3 σ (tx ++ [t]) en D3 o3 := fun X hX => by
  obtain ⟨h1, h2, h3, h4⟩ := h X hX
  refine ⟨h1, h2, h3, ?_⟩
  unfold cOrd at h4 ⊢
  rw [ordE_tx hE, fwsE_tx hE]
  exact h4
theorem ci_nodup : ∀ {l : List Nat}, l.Nodup → (ci l).Nodup
  | [], _ => List.nodup_nil
  | a :: l, h => by
    obtain ⟨h1, h2⟩ := List.nodup_cons.mp h
    refine List.nodup_cons.mpr ⟨fun g => ?_, ci_nodup h2⟩
    obtain ⟨b, g1, g2⟩ := List.mem_map.mp g
    have g3 : (b : Int) = (a : Int) := g2
    have : b = a := by omega
    exact h1 (by rw [← this]; exact g1)
theorem ordE_le (hE : okEn tx en) (hE' : okEn tx' en') (h : ∀ e, e < en.length → inE en X e = true → e < en'.length ∧ inE en' X e = true) : (ordE tx en D o X).length ≤ (ordE tx' en' D' o' X).length := by
  have h1 : (ci (ordE tx en D o X)).length ≤ (ci (ordE tx' en' D' o' X)).length := sub_len (ci_nodup (ordE_nodup hE X)) (fun z hz => by
    obtain ⟨b, g1, g2⟩ := List.mem_map.mp hz
    obtain ⟨k1, k2⟩ := (ordE_mem hE X).mp g1
    exact List.mem_map.mpr ⟨b, (ordE_mem hE' X).mpr (h b k1 k2), g2⟩)
  rw [List.length_map, List.length_map] at h1
  exact h1
theorem ordE_le0 (hE : okEn tx en) : (ordE tx en D o X).length ≤ (ordE tx en D' o' X).length := ordE_le hE hE (fun _ h1 h2 => ⟨h1, h2⟩)
theorem okEn_same (h : okEn tx en) (hs : smE en en') (hr : okRf en') : okEn tx en' := by
  refine ⟨by rw [hs.1]; exact h.1, fun e he => ?_, fun i hi => ?_⟩
  · obtain ⟨i, h1, rfl⟩ := en_getD he
    obtain ⟨s1, s2, s3, s4, s5⟩ := hs.2 i
    rw [hs.1] at h1
    have hm : en.getD i enD ∈ en := by
      rcases getD_en en i with g | g
      · exact g.2
      · omega
    obtain ⟨k1, k2, k3, k4, k5, k6, k7⟩ := h.2.1 _ hm
    unfold okE1
    rw [s1, s3, s4, s5]
    exact ⟨k1, k2, k3, k4, k5, hr _ he⟩
  · rw [hs.1] at hi
    rw [(hs.2 i).2.1, hs.1]
    rcases h.2.2 i hi with g | ⟨p, g1, g2, g3, g4⟩
    · exact Or.inl g
    · refine Or.inr ⟨p, g1, g2, ?_, ?_⟩
      · rw [(hs.2 p).2.1]
        exact g3
      · rw [(hs.2 i).2.2.1, (hs.2 p).2.2.1]
        exact g4
theorem mem_set {a : Nat} (h : e ∈ en.set a w) : e ∈ en ∨ e = w := List.mem_or_eq_of_mem_set h
theorem smE_set (ha : a < en.length) (h : enT w = enT (en.getD a enD) ∧ enP w = enP (en.getD a enD) ∧ enS w = enS (en.getD a enD) ∧ enK w = enK (en.getD a enD) ∧ enA w = enA (en.getD a enD)) : smE en (en.set a w) := by
  refine ⟨List.length_set, fun i => ?_⟩
  rw [en_set ha]
  by_cases e : i = a
  · rw [if_pos e, e]
    exact h
  · rw [if_neg e]
    exact ⟨rfl, rfl, rfl, rfl, rfl⟩
theorem smE_map : smE en (en.map (mvE A B)) := by
  refine ⟨List.length_map .., fun i => ?_⟩
  have e : (en.map (mvE A B)).getD i enD = mvE A B (en.getD i enD) := by
    rw [List.getD_eq_getElem?_getD, List.getD_eq_getElem?_getD, List.getElem?_map]
    cases en[i]? with
    | none => rfl
    | some v => rfl
  rw [e]
  exact ⟨rfl, rfl, rfl, rfl, rfl⟩
theorem okEn_fm (h : okEn tx en) (ha : a < en.length) (hf : fmOk (txLen tx en a) x y) : okEn tx (en.set a (enFm (en.getD a enD) x y)) := by
  have hm : en.getD a enD ∈ en := by
    rcases getD_en en a with g | g
    · exact g.2
    · omega
  refine ⟨by rw [List.length_set]; exact h.1, fun e he => ?_, fun i hi => ?_⟩
  · rw [List.length_set]
    rcases mem_set he with g | g
    · exact h.2.1 e g
    · rw [g]
      obtain ⟨k1, k2, k3, k4, k5, k6, k7⟩ := h.2.1 _ hm
      refine ⟨k1, k2, ?_, ?_, ?_, k6, k7⟩
      · show 0 ≤ x ∧ x ≤ 2
        omega
      · show x = 0 → y.toNat = 0
        omega
      · have k9 : 1 ≤ txLen tx en a := by
          show 1 ≤ (tx.getD (enT (en.getD a enD)) []).length
          omega
        have hf2 : (x = 0 ∧ y = 0) ∨ ((x = 1 ∨ x = 2) ∧ 1 ≤ y ∧ y < (txLen tx en a : Int)) := hf
        show y.toNat < txLen tx en a
        generalize txLen tx en a = nn at *
        omega
  · rw [List.length_set] at hi
    rw [List.length_set, en_set ha]
    have e1 : enP (if i = a then enFm (en.getD a enD) x y else en.getD i enD) = enP (en.getD i enD) := by
      split
      · rename_i c
        rw [c]
      · rfl
    have e2 : enS (if i = a then enFm (en.getD a enD) x y else en.getD i enD) = enS (en.getD i enD) := by
      split
      · rename_i c
        rw [c]
      · rfl
    rw [e1, e2]
    rcases h.2.2 i hi with g | ⟨p, g1, g2, g3, g4⟩
    · exact Or.inl g
    · refine Or.inr ⟨p, g1, g2, ?_, ?_⟩
      · rw [en_set ha]
        split
        · rename_i c
          rw [c] at g3
          exact g3
        · exact g3
      · rw [en_set ha]
        split
        · rename_i c
          rw [c] at g4
          exact g4
        · exact g4
theorem okEn_snoc (h : okEn tx en) (hT : okTx tx) (hl : en.length < 24) (hp : parIn en.length i x tx.length) (hy : 1 ≤ y ∧ y ≤ 7) (hp2 : i = -1 ∨ enP (en.getD i.toNat enD) = -1) : okEn tx (en ++ [enNew x.toNat i (enSet en i y)]) := by
  have hx : x.toNat < tx.length := by omega
  have hS : 1 ≤ enSet en i y ∧ enSet en i y ≤ 7 := by
    unfold enSet
    split
    · omega
    · rename_i c
      rcases getD_en en i.toNat with g | g
      · exact (h.2.1 _ g.2).2.1
      · omega
  refine ⟨by rw [List.length_append]; exact hl, fun e he => ?_, fun j hj => ?_⟩
  · rw [List.length_append]
    have h2 : 2 ^ en.length ≤ 2 ^ (en.length + [enNew x.toNat i (enSet en i y)].length) := Nat.pow_le_pow_right (by omega) (by omega)
    rcases List.mem_append.mp he with g | g
    · obtain ⟨k1, k2, k3, k4, k5, k6, k7⟩ := h.2.1 e g
      refine ⟨k1, k2, k3, k4, k5, ?_, by omega⟩
      rw [List.length_singleton]
      omega
    · have e9 := List.mem_singleton.mp g
      rw [e9]
      have h3 := (okTx_get hT hx).2.1
      refine ⟨hx, hS, ⟨by show (0 : Int) ≤ 0; omega, by show (0 : Int) ≤ 2; omega⟩, fun _ => rfl, ?_, Or.inl rfl, ?_⟩
      · show 0 < (tx.getD x.toNat []).length
        omega
      · show 0 < 2 ^ _
        exact Nat.pow_pos (by omega)
  · rw [List.length_append, List.length_singleton] at hj ⊢
    rw [en_snoc]
    by_cases c : j = en.length
    · rw [if_pos c]
      show i = -1 ∨ _
      rcases hp2 with g | g
      · exact Or.inl g
      · by_cases c2 : i = -1
        · exact Or.inl c2
        · refine Or.inr ⟨i.toNat, by show i = _; omega, by omega, ?_, ?_⟩
          · rw [en_snoc, if_neg (by omega)]
            exact g
          · rw [en_snoc, if_neg (by omega)]
            show enSet en i y = _
            unfold enSet
            rw [if_neg c2]
    · rw [if_neg c]
      rcases h.2.2 j (by omega) with g | ⟨p, g1, g2, g3, g4⟩
      · exact Or.inl g
      · refine Or.inr ⟨p, g1, by omega, ?_, ?_⟩
        · rw [en_snoc, if_neg (by omega)]
          exact g3
        · rw [en_snoc, if_neg (by omega)]
          exact g4
theorem okRf_snoc {s : Nat} {p : Int} {k : Nat} (h : okRf en) : okRf (en ++ [enNew k p s]) := fun e he => by
  rw [List.length_append, List.length_singleton]
  have h2 : 2 ^ en.length ≤ 2 ^ (en.length + 1) := Nat.pow_le_pow_right (by omega) (by omega)
  rcases List.mem_append.mp he with g | g
  · obtain ⟨k1, k2⟩ := h e g
    exact ⟨by omega, by omega⟩
  · rw [List.mem_singleton.mp g]
    exact ⟨Or.inl rfl, Nat.pow_pos (by omega)⟩
theorem okRf_set (h : okRf en) (hw : (enX w = -1 ∨ (0 ≤ enX w ∧ enX w < (en.length : Int))) ∧ enO w < 2 ^ en.length) : okRf (en.set a w) := fun e he => by
  rw [List.length_set]
  rcases mem_set he with g | g
  · exact h e g
  · rw [g]
    exact hw
theorem okLoc_set (h : ∀ e ∈ en, okLoc (enL e) (enM e)) (hw : okLoc (enL w) (enM w)) : ∀ e ∈ en.set a w, okLoc (enL e) (enM e) := fun e he => by
  rcases mem_set he with g | g
  · exact h e g
  · rw [g]
    exact hw
theorem okLoc_snoc {s : Nat} {p : Int} {k : Nat} (h : ∀ e ∈ en, okLoc (enL e) (enM e)) : ∀ e ∈ en ++ [enNew k p s], okLoc (enL e) (enM e) := fun e he => by
  rcases List.mem_append.mp he with g | g
  · exact h e g
  · rw [List.mem_singleton.mp g]
    exact okLoc.nil
theorem okTx_snoc (h : okTx tx) (hl : tx.length < 30) (ht : okA40 t) (h1 : 1 ≤ t.length) (h2 : t.length ≤ 30) : okTx (tx ++ [t]) := by
  refine ⟨by rw [List.length_append, List.length_singleton]; omega, fun s hs => ?_⟩
  rcases List.mem_append.mp hs with g | g
  · exact h.2 s g
  · rw [List.mem_singleton.mp g]
    exact ⟨ht, h1, h2⟩
theorem okCo_tx {m : Nat} (h : okCo n ws rs rd) (hm : n ≤ m) : okCo m ws rs rd := ⟨h.1, h.2.1, fun w hw => by have := h.2.2.1 w hw; omega, fun r hr => by have := h.2.2.2.1 r hr; omega, fun i hi => ⟨(h.2.2.2.2 i hi).1, fun r hr => by have := (h.2.2.2.2 i hi).2 r hr; omega⟩⟩
theorem okCo_word (h : okCo n ws rs rd) (hl : ws.length < 30) (hx : 0 ≤ x ∧ x < (n : Int)) : okCo n (ws ++ [x]) (rs ++ [-1]) rd := by
  refine ⟨by rw [List.length_append, List.length_singleton]; omega, by rw [List.length_append, List.length_append, h.2.1]; rfl, fun w hw => ?_, fun r hr => ?_, h.2.2.2.2⟩
  · rcases List.mem_append.mp hw with g | g
    · exact h.2.2.1 w g
    · rw [List.mem_singleton.mp g]
      exact hx
  · rcases List.mem_append.mp hr with g | g
    · exact h.2.2.2.1 r g
    · rw [List.mem_singleton.mp g]
      omega
theorem okCo_reading (h : okCo n ws rs rd) (hy : 0 ≤ y ∧ y < (n : Int)) (hl : (rd a).length < 3) : okCo n ws rs (rdU rd a (rd a ++ [y])) := by
  refine ⟨h.1, h.2.1, h.2.2.1, h.2.2.2.1, fun i hi => ?_⟩
  unfold rdU
  by_cases e : i = a
  · rw [if_pos e, List.length_append, List.length_singleton]
    refine ⟨by omega, fun r hr => ?_⟩
    rcases List.mem_append.mp hr with g | g
    · exact (h.2.2.2.2 a (by omega)).2 r g
    · rw [List.mem_singleton.mp g]
      exact hy
  · rw [if_neg e]
    exact h.2.2.2.2 i hi
theorem okCo_read {p : Nat} (h : okCo n ws rs rd) (hn : n ≤ 30) (hp : p < ws.length) (hy : y = -1 ∨ y ∈ rd (ws.getD p 0).toNat) : okCo n ws (rs.set p y) rd := by
  refine ⟨h.1, by rw [List.length_set]; exact h.2.1, h.2.2.1, fun r hr => ?_, h.2.2.2.2⟩
  rcases List.mem_or_eq_of_mem_set hr with g | g
  · exact h.2.2.2.1 r g
  · rw [g]
    rcases hy with c | c
    · omega
    · have hw : ws.getD p 0 ∈ ws := by
        rw [List.getD_eq_getElem?_getD, List.getElem?_eq_getElem hp]
        exact List.getElem_mem hp
      have h1 := h.2.2.1 _ hw
      have := (h.2.2.2.2 (ws.getD p 0).toNat (by omega)).2 y c
      omega
theorem snoc_get {A : List Int} {j : Nat} : (A ++ [x]).getD j 0 = if j < A.length then A.getD j 0 else if j = A.length then x else 0 := by
  by_cases h : j < A.length
  · rw [if_pos h, List.getD_eq_getElem?_getD, List.getD_eq_getElem?_getD, List.getElem?_append_left h]
  · rw [if_neg h, List.getD_eq_getElem?_getD, List.getElem?_append_right (by omega)]
    by_cases e : j = A.length
    · rw [if_pos e, e, Nat.sub_self]
      rfl
    · rw [if_neg e, List.getElem?_eq_none (by rw [List.length_singleton]; omega)]
      rfl
theorem okPins_snoc (h : okPins A B) (hl : A.length < 6) (hx : (lastP A < x ∧ x ≤ 999) ∧ lastP B < y ∧ y ≤ 999) : okPins (A ++ [x]) (B ++ [y]) := by
  obtain ⟨h1, h2, h3, h4⟩ := h
  unfold lastP at hx
  have hx2 : 1 ≤ x ∧ 1 ≤ y := by
    by_cases e : A.length = 0
    · rw [if_pos e, if_pos (by omega)] at hx
      omega
    · rw [if_neg e, if_neg (by omega), ← h1] at hx
      have := h3 (A.length - 1) (by omega)
      omega
  refine ⟨by rw [List.length_append, List.length_append, h1]; rfl, by rw [List.length_append, List.length_singleton]; omega, fun j hj => ?_, fun j hj => ?_⟩
  · rw [List.length_append, List.length_singleton] at hj
    rw [snoc_get, snoc_get, ← h1]
    by_cases c : j < A.length
    · rw [if_pos c, if_pos c]
      exact h3 j c
    · rw [if_neg c, if_neg c, if_pos (by omega), if_pos (by omega)]
      omega
  · rw [List.length_append, List.length_singleton] at hj
    rw [snoc_get, snoc_get, snoc_get, snoc_get, ← h1]
    have c0 : j < A.length := by omega
    rw [if_pos c0, if_pos c0]
    by_cases c : j + 1 < A.length
    · rw [if_pos c, if_pos c]
      exact h4 j c
    · have c1 : j + 1 = A.length := by omega
      rw [if_neg c, if_neg c, if_pos c1, if_pos c1]
      rw [if_neg (show ¬ A.length = 0 by omega), if_neg (show ¬ B.length = 0 by omega), ← h1, show A.length - 1 = j by omega] at hx
      omega
theorem okPins_nil : okPins [] [] := ⟨rfl, by decide, fun j h => absurd h (Nat.not_lt_zero j), fun j h => absurd h (Nat.not_lt_zero _)⟩
theorem rk_swc (hx : 1 ≤ x ∧ x ≤ 999) (hy : 0 ≤ y ∧ y ≤ 2) : okLc (1000 * y + x) ∧ swc (1000 * y + x) = 1000 * rk y + x := by
  have e1 : (1000 * y + x) / 1000 = y := by omega
  have e2 : (1000 * y + x) % 1000 = x := by omega
  refine ⟨⟨by omega, by omega, by omega⟩, ?_⟩
  unfold swc
  rw [e1, e2]
/-- a locator more -/
theorem okLoc_add {L' : List Int} (h : okLoc L M) (hx : 1 ≤ x ∧ x ≤ 999) (hy : 0 ≤ y ∧ y ≤ 2) (h1 : 1000 * y + x ∉ M) (hs : L'.Pairwise (fun a b => a < b)) (hm : ∀ z, z ∈ L' ↔ z ∈ L ∨ z = 1000 * rk y + x) (hl : L'.length ≤ 10) : okLoc L' (M ++ [1000 * y + x]) := by
  obtain ⟨k1, k2⟩ := rk_swc hx hy
  obtain ⟨g1, g2, g3, g4, g5, g6⟩ := h
  have w1 := swc_ok k1
  rw [k2] at w1
  refine ⟨hs, fun c hc => ?_, fun m hmm => ?_, ?_, hl, fun m hmo => ?_⟩
  · rcases (hm c).mp hc with g | g
    · exact g2 c g
    · rw [g]
      exact w1.1
  · rcases List.mem_append.mp hmm with g | g
    · exact g3 m g
    · rw [List.mem_singleton.mp g]
      exact k1
  · refine List.nodup_append.mpr ⟨g4, List.nodup_cons.mpr ⟨List.not_mem_nil, List.nodup_nil⟩, fun a ha b hb => ?_⟩
    rw [List.mem_singleton.mp hb]
    intro e
    rw [e] at ha
    exact h1 ha
  · rw [hm, ← g6 m hmo, List.mem_append, List.mem_singleton, ← k2]
    constructor
    · rintro (g | g)
      · exact Or.inl g
      · right
        rw [g]
    · rintro (g | g)
      · exact Or.inl g
      · exact Or.inr (swc_inj hmo k1 g)
theorem okLoc_iff (h : okLoc L M) (hx : 1 ≤ x ∧ x ≤ 999) (hy : 0 ≤ y ∧ y ≤ 2) : 1000 * rk y + x ∈ L ↔ 1000 * y + x ∈ M := by
  obtain ⟨k1, k2⟩ := rk_swc hx hy
  rw [h.2.2.2.2.2 _ k1, k2]
end PRES
