/-! The law's deeds: entries, locators, references. -/
section DEED5
variable {Ls N N1 k pc n a b c p q w tn tu Y t e X j ru m kk : Nat} {L : mLs} {r : List mV} {σ σ' σ0 σ1 σ2 : Sg} {post : tP} {i x y z v d : Int} {B M : Int → Int} {ds an dA A A2 : List Int} {ws rs PA PB : List Int} {tx : List (List Int)} {D3 : Nat → TD} {o3 : Nat → Nat → Int} {R3 : Nat → RuT} {hd : Nat → Int} {en : List EnT} {bf : Nat → List Nat} {rd : Nat → List Int} {hh ww : Int} {v11 v12 v13 v14 v15 v16 v17 v18 v19 v20 : Option mV} {wn : EnT}
theorem lawA.snoc {s : Nat} (h : lawA σ en) (he : en.length < 24) (i : Int) : lawA (setF (setF σ 480 en.length i) 481 en.length (s : Int)) (en ++ [enNew a i s]) := by
  refine ⟨fun k hk => ?_, fun k h1 h2 => ?_⟩
  · rw [List.length_append, List.length_singleton] at hk
    rw [en_snoc]
    by_cases c : k = en.length
    · rw [if_pos c, c]
      refine ⟨(setF_ne _ _ (by omega)).trans (setF_same ..), setF_same .., ?_⟩
      refine ((setF_ne _ _ (by omega)).trans (setF_ne _ _ (by omega))).trans ?_
      exact h.2 en.length (Nat.le_refl _) he
    · rw [if_neg c]
      obtain ⟨g1, g2, g3⟩ := h.1 k (by omega)
      exact ⟨((setF_ne _ _ (by omega)).trans (setF_ne _ _ (by omega))).trans g1, ((setF_ne _ _ (by omega)).trans (setF_ne _ _ (by omega))).trans g2, ((setF_ne _ _ (by omega)).trans (setF_ne _ _ (by omega))).trans g3⟩
  · rw [List.length_append, List.length_singleton] at h1
    exact ((setF_ne _ _ (by omega)).trans (setF_ne _ _ (by omega))).trans (h.2 k (by omega) h2)
theorem lawA.loc (h : lawA σ en) (ha : a < en.length) (h1 : enP wn = enP (en.getD a enD)) (h2 : enS wn = enS (en.getD a enD)) (h3 : x = ((enL wn).length : Int)) : lawA (setF σ 482 a x) (en.set a wn) := by
  refine ⟨fun k hk => ?_, fun k g1 g2 => ?_⟩
  · rw [List.length_set] at hk
    rw [en_set ha]
    by_cases c : k = a
    · rw [if_pos c, h1, h2, c]
      obtain ⟨g1, g2, g3⟩ := h.1 a ha
      exact ⟨(setF_ne _ _ (by omega)).trans g1, (setF_ne _ _ (by omega)).trans g2, (setF_same ..).trans h3⟩
    · rw [if_neg c]
      obtain ⟨g1, g2, g3⟩ := h.1 k hk
      exact ⟨(setF_ne _ _ (by omega)).trans g1, (setF_ne _ _ (by omega)).trans g2, (setF_ne _ _ (by omega)).trans g3⟩
  · rw [List.length_set] at g1
    exact (setF_ne _ _ (by omega)).trans (h.2 k g1 g2)
theorem sumN_le {f : Nat → Nat} {c : Nat} (h : ∀ i, f i ≤ c) : ∀ n, sumN f n ≤ n * c := by
  intro n
  induction n with
  | zero => exact Nat.zero_le _
  | succ n ih =>
    have h1 := h n
    have h2 : (n + 1) * c = n * c + c := Nat.succ_mul _ _
    unfold sumN
    omega
theorem deadC_le (en : List EnT) (h : en.length ≤ 24) : deadC en ≤ 1200 := by
  have h1 : ∀ t, refE en t ≤ 48 := fun t => by
    have h2 := sumN_le (f := fun a => (if xE en a = (t : Int) then 1 else 0) + (if bE en a t then 1 else 0)) (c := 2) (fun i => by
      split <;> split <;> omega) en.length
    unfold refE
    omega
  have h3 := sumN_le (f := fun t => if endE en (t : Int) = -1 then refE en t else 0) (c := 48) (fun i => by
    split
    · exact h1 i
    · omega) en.length
  unfold deadC
  omega
set_option maxRecDepth 8000 in
/-- an entry added: the law's rows, too -/
theorem law_new {s : Nat} {iv : Int} (h : StC σ B M ds an tx D3 o3 R3 hd (en ++ [enNew a iv s]) bf ws rs rd PA PB hh ww) (hA : lawA σ en) (he : en.length < 12)
    (hr : ds = [] ∧ (∀ i, rd i = []) ∧ (∀ r ∈ rs, r = -1) ∧ (∀ t ∈ tx, okT t) ∧ ws.length ≤ 10) (hp : tx.length = p) (hq : en.length = q) (hw : ws.length = w) : LI (setF (setF σ 480 q iv) 481 q (s : Int)) p (q + 1) w := by
  subst hq
  exact ⟨_, _, _, _, _, _, _, _, _, _, _, _, _, _, _, _, _, _, (h.st (by decide)).st (by decide), ⟨hr.1, hr.2.1, hr.2.2.1, hr.2.2.2.1, hA.snoc (by omega) iv, by rw [List.length_append, List.length_singleton]; omega, hr.2.2.2.2⟩, hp, by rw [List.length_append, List.length_singleton], hw⟩
set_option maxRecDepth 8000 in
theorem law_885 (h : LI σ p q w) (hY : Y < 2 ^ 28) (hp0 : 0 < p) (hq0 : q < 12) (he : 0 < q → e < q) (K : jnK Ls N q tn tu Y t e x d post) : Tr Ls (N + 1) 364 885 (lwD p q w tn tu Y t e x d v16 v17 v18 v19 v20) [] σ post := by
  have h0 := h
  obtain ⟨B, M, ds, an, tx, D3, o3, R3, hd, en, bf, ws, rs, rd, PA, PB, hh, ww, h, ⟨hds, hrd, hrs, htx, hA, h12, h10⟩, hp, hq, hw⟩ := h
  have hl := h.1.lens
  have d7 : Y / 2 ^ 7 ≤ Y := Nat.div_le_self _ _
  have d9 : Y / 2 ^ 9 ≤ Y := Nat.div_le_self _ _
  have d12 : Y / 2 ^ 12 ≤ Y := Nat.div_le_self _ _
  have m9 : Y / 2 ^ 9 % 7 < 7 := Nat.mod_lt _ (by decide)
  have m12 : Y / 2 ^ 12 % p < p := Nat.mod_lt _ hp0
  have hr : ds = [] ∧ (∀ i, rd i = []) ∧ (∀ r ∈ rs, r = -1) ∧ (∀ t ∈ tx, okT t) ∧ ws.length ≤ 10 := ⟨hds, hrd, hrs, htx, h10⟩
  have hK := fun σ' v16 v17 v18 v19 v20 g => K σ' p (q + 1) w v16 v17 v18 v19 v20 (by omega) g
  have ecast : ((q + 1 : Nat) : Int) = (q : Int) + 1 := by omega
  have keyA : Tr Ls (N + 1) 364 906 (lwD p q w tn tu Y t e x d v16 v17 v18 v19 v20) [mI (-1)] σ post := by
    iterate 4 (refine tr_mv rfl (fun _ => rfl) ?_)
    refine tr_shrn (a := Y) (p := 9) (by omega) (by decide) rfl ?_
    iterate 1 (refine tr_mv rfl (fun _ => rfl) ?_)
    refine tr_remn (a := Y / 2 ^ 9) (b := 7) (by omega) (by omega) rfl ?_
    iterate 7 (refine tr_mv rfl (fun _ => rfl) ?_)
    refine tr_shrn (a := Y) (p := 12) (by omega) (by decide) rfl ?_
    iterate 1 (refine tr_mv rfl (fun _ => rfl) ?_)
    refine tr_remn (a := Y / 2 ^ 12) (b := p) (by omega) (by omega) rfl ?_
    iterate 1 (refine tr_mv rfl (fun _ => rfl) ?_)
    refine tr_stat1 rfl rfl rfl (p_4 (N := 0) h (Or.inl rfl) (by omega) (by omega) (by omega) (fun g _ => absurd rfl g) (fun σ1 g h1 k1 => ?_))
    rw [hq]
    have e1 : enSet en (-1) (1 + ((Y / 2 ^ 9 % 7 : Nat) : Int)) = 1 + Y / 2 ^ 9 % 7 := by
      unfold enSet
      rw [if_pos rfl]
      omega
    rw [e1] at h1
    iterate 5 (refine tr_mv rfl (fun _ => rfl) ?_)
    refine tr_cmp2 rfl (m32_of (by omega)) (m32_of (by omega)) (fun c3 => absurd rfl c3) (fun c3 => ?_)
    iterate 4 (refine tr_mv rfl (fun _ => rfl) ?_)
    refine tr_if2 rfl (m32_of (by omega)) (fun c1 => ?_) (fun c1 => ?_)
    · exfalso
      omega
    iterate 2 (refine tr_mv rfl (fun _ => rfl) ?_)
    refine tr_cmp2 rfl (m32_of (by omega)) (m32_of (by omega)) (fun c2 => ?_) (fun c2 => ?_)
    · exfalso
      omega
    iterate 3 (refine tr_mv rfl (fun _ => rfl) ?_)
    refine tr_ls (Or.inl rfl) (by omega) rfl ?_
    iterate 6 (refine tr_mv rfl (fun _ => rfl) ?_)
    refine tr_ls (Or.inr (Or.inl rfl)) (by omega) rfl ?_
    iterate 2 (refine tr_mv rfl (fun _ => rfl) ?_)
    have := hK _ (some (mI (-1))) (some (mI (1 + ((Y / 2 ^ 9 % 7 : Nat) : Int)))) (some (mI (q : Int))) v19 v20 (law_new h1 (hA.of k1) (by omega) hr hp hq hw)
    unfold lwD lwV at this
    rw [ecast, show ((1 + Y / 2 ^ 9 % 7 : Nat) : Int) = 1 + ((Y / 2 ^ 9 % 7 : Nat) : Int) by omega] at this
    exact this
  iterate 1 (refine tr_mv rfl (fun _ => rfl) ?_)
  refine tr_if2 rfl (m32_of (by omega)) (fun c0 => ?_) (fun c0 => ?_)
  · iterate 2 (refine tr_mv rfl (fun _ => rfl) ?_)
    exact keyA
  iterate 2 (refine tr_mv rfl (fun _ => rfl) ?_)
  refine tr_shrn (a := Y) (p := 7) (by omega) (by decide) rfl ?_
  iterate 1 (refine tr_mv rfl (fun _ => rfl) ?_)
  refine tr_and1 (a := Y / 2 ^ 7) (by omega) rfl ?_
  refine tr_if2 rfl (m32_of (by omega)) (fun c1 => ?_) (fun c1 => ?_)
  · have he2 : e < en.length := by have := he (by omega); omega
    have hA1 := hA.1 e he2
    have hS := (h.1.ens.2.1 _ (enD_mem he2)).2.1
    have hP := h.1.ens.2.2 e he2
    iterate 5 (refine tr_mv rfl (fun _ => rfl) ?_)
    refine tr_shrn (a := Y) (p := 9) (by omega) (by decide) rfl ?_
    iterate 1 (refine tr_mv rfl (fun _ => rfl) ?_)
    refine tr_remn (a := Y / 2 ^ 9) (b := 7) (by omega) (by omega) rfl ?_
    iterate 7 (refine tr_mv rfl (fun _ => rfl) ?_)
    refine tr_shrn (a := Y) (p := 12) (by omega) (by decide) rfl ?_
    iterate 1 (refine tr_mv rfl (fun _ => rfl) ?_)
    refine tr_remn (a := Y / 2 ^ 12) (b := p) (by omega) (by omega) rfl ?_
    iterate 1 (refine tr_mv rfl (fun _ => rfl) ?_)
    refine tr_stat1 rfl rfl rfl (p_4 (N := 0) h (Or.inr (by omega)) (by omega) (by omega) (by omega) (fun g1 g2 => ?_) (fun σ1 g h1 k1 => ?_))
    · have e1 : (e : Int).toNat = e := by omega
      rw [e1] at g2
      have hP2 : ∃ pn : Nat, enP (en.getD e enD) = (pn : Int) ∧ pn < en.length := by
        rcases hP with g | ⟨pn, g3, g4, -⟩
        · exact absurd g g2
        · exact ⟨pn, g3, g4⟩
      clear hP
      obtain ⟨pn, g3, g4⟩ := hP2
      iterate 3 (refine tr_mv rfl (fun _ => rfl) ?_)
      refine tr_if2 rfl (m32_of (by omega)) (fun c2 => ?_) (fun c2 => ?_)
      · exfalso
        omega
      iterate 2 (refine tr_mv rfl (fun _ => rfl) ?_)
      refine tr_la (Or.inl rfl) (by omega) rfl ?_
      rw [hA1.1, g3]
      refine tr_if2 rfl (m32_of (by omega)) (fun c3 => ?_) (fun c3 => ?_)
      · exfalso
        omega
      iterate 9 (refine tr_mv rfl (fun _ => rfl) ?_)
      exact K σ p q w _ _ _ _ _ (Nat.le_refl _) h0
    · have e1 : (e : Int).toNat = e := by omega
      have g2 : enP (en.getD e enD) = -1 := by
        rcases g with g | g
        · exfalso
          omega
        · rw [e1] at g
          exact g
      clear hP
      have e2 : enSet en (e : Int) (1 + ((Y / 2 ^ 9 % 7 : Nat) : Int)) = enS (en.getD e enD) := by
        unfold enSet
        rw [if_neg (by omega), e1]
      rw [e2] at h1
      have hA2 := hA.of k1
      have hA3 := hA2.1 e he2
      rw [hq]
      iterate 3 (refine tr_mv rfl (fun _ => rfl) ?_)
      refine tr_if2 rfl (m32_of (by omega)) (fun c2 => ?_) (fun c2 => ?_)
      · exfalso
        omega
      iterate 2 (refine tr_mv rfl (fun _ => rfl) ?_)
      refine tr_la (Or.inl rfl) (by omega) rfl ?_
      rw [hA3.1, g2]
      iterate 2 (refine tr_mv rfl (fun _ => rfl) ?_)
      refine tr_cmp2 rfl (m32_of (by omega)) (m32_of (by omega)) (fun c3 => absurd rfl c3) (fun c3 => ?_)
      iterate 4 (refine tr_mv rfl (fun _ => rfl) ?_)
      refine tr_if2 rfl (m32_of (by omega)) (fun c4 => ?_) (fun c4 => ?_)
      · exfalso
        omega
      iterate 2 (refine tr_mv rfl (fun _ => rfl) ?_)
      refine tr_cmp2 rfl (m32_of (by omega)) (m32_of (by omega)) (fun c5 => ?_) (fun c5 => ?_)
      · exfalso
        omega
      iterate 3 (refine tr_mv rfl (fun _ => rfl) ?_)
      refine tr_ls (Or.inl rfl) (by omega) rfl ?_
      iterate 3 (refine tr_mv rfl (fun _ => rfl) ?_)
      refine tr_if2 rfl (m32_of (by omega)) (fun c6 => ?_) (fun c6 => ?_)
      · iterate 2 (refine tr_mv rfl (fun _ => rfl) ?_)
        refine tr_la (Or.inr (Or.inl rfl)) (by omega) rfl ?_
        rw [show (setF σ1 480 q (e : Int)).2 481 e = (enS (en.getD e enD) : Int) from (setF_ne _ _ (by omega)).trans hA3.2.1]
        refine tr_ls (Or.inr (Or.inl rfl)) (by omega) rfl ?_
        iterate 2 (refine tr_mv rfl (fun _ => rfl) ?_)
        have := hK _ (some (mI (e : Int))) (some (mI (1 + ((Y / 2 ^ 9 % 7 : Nat) : Int)))) (some (mI (q : Int))) v19 v20 (law_new h1 hA2 (by omega) hr hp hq hw)
        unfold lwD lwV at this
        rw [ecast] at this
        exact this
      · exfalso
        omega
  · iterate 2 (refine tr_mv rfl (fun _ => rfl) ?_)
    exact keyA
set_option maxRecDepth 8000 in
/-- how many locators, written down -/
theorem law_1263 (h : StC σ B M ds an tx D3 o3 R3 hd (en.set e wn) bf ws rs rd PA PB hh ww) (hA : lawA σ en) (he : e < en.length) (h1 : enP wn = enP (en.getD e enD)) (h2 : enS wn = enS (en.getD e enD)) (hl : ((enL wn).length : Int) = ((enL (en.getD e enD)).length : Int) + (if y = 1 then 1 else 0)) (hy : y = -13 ∨ y = 0 ∨ y = 1)
    (hr : ds = [] ∧ (∀ i, rd i = []) ∧ (∀ r ∈ rs, r = -1) ∧ (∀ t ∈ tx, okT t) ∧ ws.length ≤ 10) (h12 : en.length ≤ 12) (hp : tx.length = p) (hq : en.length = q) (hw : ws.length = w)
    (K : jnK Ls N q tn tu Y t e x d post) : ∀ v : Int, v = y → Tr Ls N 364 1263 (lwD p q w tn tu Y t e x d v16 (some (mI v)) v18 v19 v20) [mI 1] σ post := by
  intro v hv
  have hA1 := (hA.1 e he).2.2
  have key : ∀ u : Int, u = (if y = 1 then 1 else 0) → Tr Ls N 364 1282 (lwD p q w tn tu Y t e x d v16 (some (mI v)) v18 v19 v20) [mI u, mI ((enL (en.getD e enD)).length : Int), mI (e : Int), mP (some 482)] σ post := by
    intro u hu
    rw [← hu] at hl
    iterate 1 (refine tr_mv rfl (fun _ => rfl) ?_)
    refine tr_ls (Or.inr (Or.inr rfl)) (by omega) rfl ?_
    iterate 1 (refine tr_mv rfl (fun _ => rfl) ?_)
    exact K _ p q w _ _ _ _ _ (Nat.le_refl _) ⟨_, _, _, _, _, _, _, _, _, _, _, _, _, _, _, _, _, _, h.st (by decide), ⟨hr.1, hr.2.1, hr.2.2.1, hr.2.2.2.1, hA.loc he h1 h2 hl.symm, by rw [List.length_set]; exact h12, hr.2.2.2.2⟩, hp, by rw [List.length_set]; exact hq, hw⟩
  iterate 4 (refine tr_mv rfl (fun _ => rfl) ?_)
  refine tr_la (Or.inr (Or.inr rfl)) (by omega) rfl ?_
  rw [hA1]
  iterate 2 (refine tr_mv rfl (fun _ => rfl) ?_)
  refine tr_cmp2 rfl (m32_of (by omega)) (m32_of (by omega)) (fun c1 => ?_) (fun c1 => ?_)
  · iterate 1 (refine tr_mv rfl (fun _ => rfl) ?_)
    exact key 0 (by rw [if_neg (by omega)])
  · iterate 2 (refine tr_mv rfl (fun _ => rfl) ?_)
    exact key 1 (by rw [if_pos (by omega)])
end DEED5
